/-! put, get, copy -/
theorem c_has {o z i k : Nat} {h : HP} (hz : z ≤ 60) (hi : i < 2 ^ 31) (hk : k < 2 ^ 31) (e : h.1 o 2 = nI z) : f_Sh_hasItems o (nI i) (nI k) h = some (if i + k ≤ z then 1 else 0, h) := by
  unfold f_Sh_hasItems
  have q1 : (nI z < nI i) ↔ z < i := nI_ltI (by omega) hi
  rw [if_neg (nI_pos hi), if_neg (nI_pos hk)]
  simp only [ltt_s, rI, e, q1]
  by_cases h1 : z < i
  · rw [if_pos h1, if_neg (by omega)]
  · have q2 : (nI z - nI i < nI k) ↔ z - i < k := by
      rw [pk_sub (by omega)]
      exact nI_ltI (by omega) hk
    rw [if_neg h1]
    simp only [q2]
    by_cases h2 : z - i < k
    · rw [if_pos h2, if_neg (by omega)]
    · rw [if_neg h2, if_pos (by omega)]
theorem c_hasN1 {o : Nat} {a n : Int32} {h : HP} (z : a < 0) : f_Sh_hasItems o a n h = some (0, h) := by
  unfold f_Sh_hasItems
  rw [if_pos z]
theorem c_hasN2 {o : Nat} {a n : Int32} {h : HP} (z1 : ¬ a < 0) (z : n < 0) : f_Sh_hasItems o a n h = some (0, h) := by
  unfold f_Sh_hasItems
  rw [if_neg z1, if_pos z]
theorem c_has1 {o z : Nat} {a : Int32} {h : HP} (hz : z ≤ 60) (e : h.1 o 2 = nI z) : f_Sh_hasItems o a 1 h = some (bI (inb a z), h) := by
  by_cases h1 : a < 0
  · have x : inb a z = false := by
      cases hx : inb a z
      · rfl
      · exact absurd h1 ((inb_c (by omega)).mp hx).1
    rw [c_hasN1 h1, x]
    rfl
  · obtain ⟨i, i1, rfl⟩ := nI_of h1
    rw [show f_Sh_hasItems o (nI i) 1 h = _ from c_has (k := 1) hz i1 (by omega) e]
    by_cases h2 : i + 1 ≤ z
    · rw [if_pos h2, inb_lit (by omega) (by omega)]
      rfl
    · rw [if_neg h2]
      have x : inb (nI i) z = false := by
        cases hx : inb (nI i) z
        · rfl
        · obtain ⟨j, j1, j2⟩ := (inb_iff (by omega)).mp hx
          have := (nI_eq i1 (by omega)).mp j2
          omega
      rw [x]
      rfl
def fbI (f z : Nat) (a2 a3 : Int32) : Int32 := if nI f = a2 then (if inb a3 z = true then 0 else 2) else 3
theorem c_forb {o f z : Nat} {a2 a3 : Int32} {h : HP} (hf : f < 3) (hz : z ≤ 60) (e1 : h.1 o 1 = nI f) (e2 : h.1 o 2 = nI z) : f_Sh_whatForbids o a2 a3 h = some (fbI f z a2 a3, h) := by
  unfold f_Sh_whatForbids fbI
  rw [lost_f hf e1, bd2_s, if_pos rfl]
  simp only [ltt_s, rI, e1]
  by_cases z1 : nI f = a2
  · rw [if_pos z1, if_pos z1, c_has1 hz e2, bd2_s, bI_if]
    by_cases z2 : inb a3 z = true
    · rw [if_pos z2, if_pos z2]
    · rw [if_neg z2, if_neg z2]
  · rw [if_neg z1, if_neg z1]
theorem c_forbL {o : Nat} {a2 a3 : Int32} {h : HP} (e1 : h.1 o 1 = -1) : f_Sh_whatForbids o a2 a3 h = some (1, h) := by
  unfold f_Sh_whatForbids
  rw [lost_t e1, bd2_s, if_neg i1_0]
theorem m_lacks {s f z : Nat} {a2 a3 : Int32} {h : HP} (hs : s < 4) (hz : z ≤ 60) (e4 : h.1 4 s = 1) (e3 : h.1 3 s = nI f) (e2 : h.1 2 s = nI z) : f_Mo_lacks (nI s) a2 a3 h = some (fbI f z a2 a3, h) := by
  have hb : inb (nI s) 4 = true := inb_lit hs (by omega)
  unfold f_Mo_lacks fbI
  simp only [hb, ckk_t, ltt_s, rA_nI (show s < 2 ^ 31 by omega), e4, i1_0, if_false, e3, e2]
  by_cases z1 : nI f = a2
  · rw [if_pos z1, if_pos z1, m_inM (by omega), bd2_s, bI_if]
    by_cases z2 : inb a3 z = true
    · rw [if_pos z2, if_pos z2]
    · rw [if_neg z2, if_neg z2]
  · rw [if_neg z1, if_neg z1]
theorem m_lacksL {s : Nat} {a2 a3 : Int32} {h : HP} (hs : s < 4) (e4 : h.1 4 s = 0) : f_Mo_lacks (nI s) a2 a3 h = some (1, h) := by
  have hb : inb (nI s) 4 = true := inb_lit hs (by omega)
  unfold f_Mo_lacks
  rw [hb, ckk_t, rA_nI (show s < 2 ^ 31 by omega), e4, ltt_s, if_pos rfl]
def lbI (f v : Int32) : Int32 := if f = 0 then (Int32.toInt8 v).toInt32 else if f = 1 then (Int32.toInt16 v).toInt32 else v
theorem c_low {f v : Int32} {h : HP} : f_CS_lowestBits f v h = some (lbI f v, h) := by
  unfold f_CS_lowestBits lbI
  by_cases z : f = 0
  · rw [if_pos z, if_pos z]
  · rw [if_neg z, if_neg z]
    by_cases y : f = 1
    · rw [if_pos y, if_pos y]
    · rw [if_neg y, if_neg y]
theorem m_keep {s i : Nat} {v : Int32} {h : HP} (hs : s < 4) (hi : i < 60) : f_Mo_keep (nI s) (nI i) v h = some (sI h 1 (60 * s + i) (lbI (h.1 3 s) v)) := by
  have hb : inb (nI s) 4 = true := inb_lit hs (by omega)
  have hb2 : inb (nI (60 * s + i)) 240 = true := inb_lit (by omega) (by omega)
  have e : (if h.1 3 s = 0 then some ((Int32.toInt8 v).toInt32) else (if h.1 3 s = 1 then some ((Int32.toInt16 v).toInt32) else some v)) = some (lbI (h.1 3 s) v) := by
    unfold lbI
    by_cases z : h.1 3 s = 0
    · rw [if_pos z, if_pos z]
    · rw [if_neg z, if_neg z]
      by_cases y : h.1 3 s = 1
      · rw [if_pos y, if_pos y]
      · rw [if_neg y, if_neg y]
  unfold f_Mo_keep
  simp only [hb, ckk_t, ltt_s, rA_nI (show s < 2 ^ 31 by omega), e, bd1_s, k60, hb2, wA_nI (show 60 * s + i < 2 ^ 31 by omega)]
theorem o_put : op_put Inv := fun a1 a2 a3 a4 h hi => by
  by_cases z1 : inb a1 4 = true
  · by_cases z2 : inb a2 3 = true
    · obtain ⟨s, hs, e⟩ := (inb_iff (by omega)).mp z1
      subst e
      obtain ⟨q1, q2, q3⟩ := so_ s hs
      have hl : s < 2 ^ 31 := by omega
      have hh := hi.2.2.2.2.2.1
      have cI : ∀ x, f_Sh_whatForbids (42 - 2 * s) a2 a3 h = some (x, h) → ¬ x = 0 → f_CS_put (nI s) a2 a3 a4 h = some (-10 - x, sI h 71 10 x) := fun x ex nx => by
        unfold f_CS_put
        rw [c_isSheet, bd2_s, bI_if, if_pos z1, c_isForm, bd2_s, bI_if, if_pos z2, z1, ckk_t, nI_clamp hl, q1, ltt_s, ex, bd2_s, if_neg nx, c_fnd, bd2_s]
      have mI : ∀ x g, f_Mo_lacks (nI s) a2 a3 g = some (x, g) → ¬ x ≤ 0 → f_Mo_put (nI s) a2 a3 a4 g = some (-10 - x, sI g 34 44 x) := fun x g ex nx => by
        unfold f_Mo_put
        rw [m_isSheet, bd2_s, bI_if, if_pos z1, m_in2, bd2_s, bI_if, if_pos z2, ex, bd2_s, if_neg nx, m_fnd, bd2_s]
      rcases hh.at hs with ⟨g1, g2⟩ | ⟨f, z, g1, g2, g3, g4, g5, g6, g7, g8⟩
      · exact ⟨_, _, _, cI 1 (c_forbL g1) i1_0, mI 1 _ (m_lacksL hs (by rw [sI_na (by decide)]; exact g2)) (by decide), hi.find 1⟩
      · have ec := c_forb (a2 := a2) (a3 := a3) g1 g2 g3 g6
        by_cases y1 : nI f = a2
        · by_cases y2 : inb a3 z = true
          · have x0 : fbI f z a2 a3 = 0 := by
              unfold fbI
              rw [if_pos y1, if_pos y2]
            rw [x0] at ec
            subst y1
            obtain ⟨i, i1, e⟩ := (inb_iff (by omega)).mp y2
            subst e
            have hb : inb (nI i) 60 = true := inb_lit (by omega) (by omega)
            have hil : i < 2 ^ 31 := by omega
            obtain ⟨h1, e1⟩ : ∃ h1, h1 = sI h (41 - 2 * s) i (lbI (nI f) a4) := ⟨_, rfl⟩
            have nr : ∀ a, a ≠ 41 - 2 * s → h1.1 a = h.1 a := fun a ha => by rw [e1]; exact sI_na ha
            have k3 : h1.1 3 s = nI f := by rw [nr 3 (by omega)]; exact g5
            have em := m_lacks (a2 := nI f) (a3 := nI i) (h := h1) hs g2 (by rw [nr 4 (by omega)]; exact g4) k3 (by rw [nr 2 (by omega)]; exact g7)
            rw [x0] at em
            have f3 : FR (shL s) h (sI h1 1 (60 * s + i) (lbI (nI f) a4)) := by
              rw [e1]
              exact FR.s (FR.s FR.rf shL_r) (shL_k (by decide))
            have k : SX s h (sI h1 1 (60 * s + i) (lbI (nI f) a4)) := SX.of f3 (by rw [sI_na (by decide), nr 34 (by omega)]) (by rw [sI_na (by decide), nr 34 (by omega)])
            refine ⟨1, h1, sI h1 1 (60 * s + i) (lbI (nI f) a4), ?_, ?_, hi.sx hs k ?_ (hh.upd hs k (fun j hj => ?_) (fun j hj => ?_) (fun j hj => ?_) (fun j hj => ?_) (Or.inr ⟨f, z, g1, g2, ?_, ?_, ?_, ?_, ?_, fun i' hi' => ?_⟩))⟩
            · unfold f_CS_put
              rw [c_isSheet, bd2_s, bI_if, if_pos z1, c_isForm, bd2_s, bI_if, if_pos z2, z1, ckk_t, nI_clamp hl, q1, ltt_s, ec, bd2_s, if_pos rfl, ckk_t, ltt_s, q2, ltt_s, c_low, bd2_s, hb, ckk_t, wA_nI hil, ltt_s, e1]
            · unfold f_Mo_put
              rw [m_isSheet, bd2_s, bI_if, if_pos z1, m_in2, bd2_s, bI_if, if_pos z2, em, bd2_s, if_pos (by decide), m_keep hs (by omega), bd1_s, k3]
            · unfold FB
              rw [sI_na (by decide), sI_na (by decide), nr 71 (by omega), nr 34 (by omega)]
              exact hi.2.2.2.2.1
            · rw [sI_na (by decide), nr 4 (by omega)]
            · rw [sI_na (by decide), nr 3 (by omega)]
            · rw [sI_na (by decide), nr 2 (by omega)]
            · rw [sI_nj (by omega), nr 1 (by omega)]
            · rw [sI_na (by omega), nr _ (by omega)]; exact g3
            · rw [sI_na (by decide), nr 4 (by omega)]; exact g4
            · rw [sI_na (by decide), nr 3 (by omega)]; exact g5
            · rw [sI_na (by omega), nr _ (by omega)]; exact g6
            · rw [sI_na (by decide), nr 2 (by omega)]; exact g7
            · rw [sI_na (a := 1) (b := 41 - 2 * s) (by omega), e1]
              by_cases ei : i' = i
              · subst ei
                rw [sI_eq, sI_eq]
              · rw [sI_nj ei, sI_nj (by omega), sI_na (by omega)]
                exact g8 i' hi'
          · have x0 : fbI f z a2 a3 = 2 := by
              unfold fbI
              rw [if_pos y1, if_neg y2]
            rw [x0] at ec
            have em := m_lacks (a2 := a2) (a3 := a3) (h := sI h 71 10 2) hs g2 (by rw [sI_na (by decide)]; exact g4) (by rw [sI_na (by decide)]; exact g5) (by rw [sI_na (by decide)]; exact g7)
            rw [x0] at em
            exact ⟨_, _, _, cI 2 ec (by decide), mI 2 _ em (by decide), hi.find 2⟩
        · have x0 : fbI f z a2 a3 = 3 := by
            unfold fbI
            rw [if_neg y1]
          rw [x0] at ec
          have em := m_lacks (a2 := a2) (a3 := a3) (h := sI h 71 10 3) hs g2 (by rw [sI_na (by decide)]; exact g4) (by rw [sI_na (by decide)]; exact g5) (by rw [sI_na (by decide)]; exact g7)
          rw [x0] at em
          exact ⟨_, _, _, cI 3 ec (by decide), mI 3 _ em (by decide), hi.find 3⟩
    · refine ⟨-2, h, h, ?_, ?_, hi⟩
      · unfold f_CS_put
        rw [c_isSheet, bd2_s, bI_if, if_pos z1, c_isForm, bd2_s, bI_if, if_neg z2]
      · unfold f_Mo_put
        rw [m_isSheet, bd2_s, bI_if, if_pos z1, m_in2, bd2_s, bI_if, if_neg z2]
  · refine ⟨-2, h, h, ?_, ?_, hi⟩
    · unfold f_CS_put
      rw [c_isSheet, bd2_s, bI_if, if_neg z1]
    · unfold f_Mo_put
      rw [m_isSheet, bd2_s, bI_if, if_neg z1]
theorem o_get : op_get Inv := fun a1 a2 a3 h hi => by
  by_cases z1 : inb a1 4 = true
  · by_cases z2 : inb a2 3 = true
    · obtain ⟨s, hs, e⟩ := (inb_iff (by omega)).mp z1
      subst e
      obtain ⟨q1, q2, q3⟩ := so_ s hs
      have hl : s < 2 ^ 31 := by omega
      have hh := hi.2.2.2.2.2.1
      have cI : ∀ x, f_Sh_whatForbids (42 - 2 * s) a2 a3 h = some (x, h) → ¬ x = 0 → f_CS_get (nI s) a2 a3 h = some (-2147483648, sI h 71 10 x) := fun x ex nx => by
        unfold f_CS_get
        rw [c_isSheet, bd2_s, bI_if, if_pos z1, c_isForm, bd2_s, bI_if, if_pos z2, z1, ckk_t, nI_clamp hl, q1, ltt_s, ex, bd2_s, if_neg nx, ltt_s]
      have mI : ∀ x g, f_Mo_lacks (nI s) a2 a3 g = some (x, g) → ¬ x ≤ 0 → f_Mo_get (nI s) a2 a3 g = some (-2147483648, sI g 34 44 x) := fun x g ex nx => by
        unfold f_Mo_get
        rw [m_isSheet, bd2_s, bI_if, if_pos z1, m_in2, bd2_s, bI_if, if_pos z2, ex, bd2_s, if_neg nx, ltt_s]
      rcases hh.at hs with ⟨g1, g2⟩ | ⟨f, z, g1, g2, g3, g4, g5, g6, g7, g8⟩
      · exact ⟨_, _, _, cI 1 (c_forbL g1) i1_0, mI 1 _ (m_lacksL hs (by rw [sI_na (by decide)]; exact g2)) (by decide), hi.find 1⟩
      · have ec := c_forb (a2 := a2) (a3 := a3) g1 g2 g3 g6
        by_cases y1 : nI f = a2
        · by_cases y2 : inb a3 z = true
          · have x0 : fbI f z a2 a3 = 0 := by
              unfold fbI
              rw [if_pos y1, if_pos y2]
            rw [x0] at ec
            have em := m_lacks (a2 := a2) (a3 := a3) (h := h) hs g2 g4 g5 g7
            rw [x0] at em
            obtain ⟨i, i1, e⟩ := (inb_iff (by omega)).mp y2
            subst e
            have hb : inb (nI i) 60 = true := inb_lit (by omega) (by omega)
            have hb2 : inb (nI (60 * s + i)) 240 = true := inb_lit (by omega) (by omega)
            have hil : i < 2 ^ 31 := by omega
            refine ⟨h.1 (41 - 2 * s) i, h, h, ?_, ?_, hi⟩
            · unfold f_CS_get
              rw [c_isSheet, bd2_s, bI_if, if_pos z1, c_isForm, bd2_s, bI_if, if_pos z2, z1, ckk_t, nI_clamp hl, q1, ltt_s, ec, bd2_s, if_pos rfl, ckk_t, ltt_s, q2, ltt_s, hb, ckk_t, rA_nI hil, ltt_s]
            · unfold f_Mo_get
              rw [m_isSheet, bd2_s, bI_if, if_pos z1, m_in2, bd2_s, bI_if, if_pos z2, em, bd2_s, if_pos (by decide), k60, hb2, ckk_t, rA_nI (by omega), ltt_s, g8 i (by omega)]
          · have x0 : fbI f z a2 a3 = 2 := by
              unfold fbI
              rw [if_pos y1, if_neg y2]
            rw [x0] at ec
            have em := m_lacks (a2 := a2) (a3 := a3) (h := sI h 71 10 2) hs g2 (by rw [sI_na (by decide)]; exact g4) (by rw [sI_na (by decide)]; exact g5) (by rw [sI_na (by decide)]; exact g7)
            rw [x0] at em
            exact ⟨_, _, _, cI 2 ec (by decide), mI 2 _ em (by decide), hi.find 2⟩
        · have x0 : fbI f z a2 a3 = 3 := by
            unfold fbI
            rw [if_neg y1]
          rw [x0] at ec
          have em := m_lacks (a2 := a2) (a3 := a3) (h := sI h 71 10 3) hs g2 (by rw [sI_na (by decide)]; exact g4) (by rw [sI_na (by decide)]; exact g5) (by rw [sI_na (by decide)]; exact g7)
          rw [x0] at em
          exact ⟨_, _, _, cI 3 ec (by decide), mI 3 _ em (by decide), hi.find 3⟩
    · refine ⟨-2147483648, h, h, ?_, ?_, hi⟩
      · unfold f_CS_get
        rw [c_isSheet, bd2_s, bI_if, if_pos z1, c_isForm, bd2_s, bI_if, if_neg z2]
      · unfold f_Mo_get
        rw [m_isSheet, bd2_s, bI_if, if_pos z1, m_in2, bd2_s, bI_if, if_neg z2]
  · refine ⟨-2147483648, h, h, ?_, ?_, hi⟩
    · unfold f_CS_get
      rw [c_isSheet, bd2_s, bI_if, if_neg z1]
    · unfold f_Mo_get
      rw [m_isSheet, bd2_s, bI_if, if_neg z1]
theorem l_c120 {s i n : Nat} {a3 a4 : Int32} (hs : s < 4) (hn : i + n ≤ 60) : ∀ (fu q : Nat) (h : HP), q ≤ n → n < q + fu → (∀ p, p < q → h.1 0 p = h.1 1 (60 * s + i + p)) → ∃ v h', lp_Mo_copy_120 (nI s) (nI i) a3 a4 (nI n) fu (nI q) h = some (v, h') ∧ (∀ p, p < n → h'.1 0 p = h.1 1 (60 * s + i + p)) ∧ FR [0] h h' := by
  intro fu
  induction fu with
  | zero => intro q h h1 h2; omega
  | succ fu ih =>
    intro q h hq hf hj
    have qq : (nI n ≤ nI q) ↔ n ≤ q := nI_leI (by omega) (by omega)
    rw [lp_Mo_copy_120]
    simp only [qq]
    by_cases he : n ≤ q
    · rw [if_pos he]
      exact ⟨_, h, rfl, fun p hp => hj p (by omega), FR.rf⟩
    · rw [if_neg he]
      have hb : inb (nI (60 * s + i + q)) 240 = true := inb_lit (by omega) (by omega)
      have hb2 : inb (nI q) 60 = true := inb_lit (by omega) (by omega)
      rw [k60, nI_add, hb, ckk_t, rA_nI (by omega), ltt_s, hb2, ckk_t, wA_nI (by omega), ltt_s, ltt_s, nI_1]
      obtain ⟨v, h', p1, p2, p3⟩ := ih (q + 1) (sI h 0 q (h.1 1 (60 * s + i + q))) (by omega) (by omega) (fun p hp => by
        by_cases e : p = q
        · subst e; simp [rd_sI]
        · have := hj p (by omega)
          simp [rd_sI, e, this])
      refine ⟨v, h', p1, fun p hp => ?_, FR.tr (FR.s FR.rf (by decide)) p3⟩
      rw [p2 p hp, sI_na (by decide)]
theorem l_c157 {t j n : Nat} {a1 a2 : Int32} (ht : t < 4) (hn : j + n ≤ 60) : ∀ (fu q : Nat) (h : HP), q ≤ n → n < q + fu → (∀ p, p < q → h.1 1 (60 * t + j + p) = h.1 0 p) → ∃ v h', lp_Mo_copy_157 a1 a2 (nI t) (nI j) (nI n) fu (nI q) h = some (v, h') ∧ (∀ p, p < n → h'.1 1 (60 * t + j + p) = h.1 0 p) ∧ (∀ x, (x < 60 * t + j ∨ 60 * t + j + n ≤ x) → h'.1 1 x = h.1 1 x) ∧ FR [1] h h' := by
  intro fu
  induction fu with
  | zero => intro q h h1 h2; omega
  | succ fu ih =>
    intro q h hq hf hj
    have qq : (nI n ≤ nI q) ↔ n ≤ q := nI_leI (by omega) (by omega)
    rw [lp_Mo_copy_157]
    simp only [qq]
    by_cases he : n ≤ q
    · rw [if_pos he]
      exact ⟨_, h, rfl, fun p hp => hj p (by omega), fun _ _ => rfl, FR.rf⟩
    · rw [if_neg he]
      have hb : inb (nI (60 * t + j + q)) 240 = true := inb_lit (by omega) (by omega)
      have hb2 : inb (nI q) 60 = true := inb_lit (by omega) (by omega)
      rw [hb2, ckk_t, rA_nI (by omega), ltt_s, k60, nI_add, hb, ckk_t, wA_nI (by omega), ltt_s, ltt_s, nI_1]
      obtain ⟨v, h', p1, p2, p3, p4⟩ := ih (q + 1) (sI h 1 (60 * t + j + q) (h.1 0 q)) (by omega) (by omega) (fun p hp => by
        by_cases e : p = q
        · subst e; simp [rd_sI]
        · have := hj p (by omega)
          have e' : ¬ 60 * t + j + p = 60 * t + j + q := by omega
          rw [sI_nj e', sI_na (a := 1) (b := 0) (by decide)]
          exact this)
      refine ⟨v, h', p1, fun p hp => ?_, fun x hx => ?_, FR.tr (FR.s FR.rf (by decide)) p4⟩
      · rw [p2 p hp, sI_na (by decide)]
      · rw [p3 x hx, sI_nj (by omega)]
theorem c_copyF {s t f f' z z' : Nat} {a2 a4 a5 : Int32} {h : HP} (hs : s < 4) (ht : t < 4) (hf : f < 3) (hf' : f' < 3) (e1 : h.1 (42 - 2 * s) 1 = nI f) (e2 : h.1 (42 - 2 * t) 1 = nI f') : f_CS_copy (nI s) a2 (nI t) a4 a5 h = if nI f = nI f' then bd2 (f_Sh_hasItems (42 - 2 * s) a2 a5 h) (fun v25 h26 => if v25 = 0 then some (-10 - 2, sI h26 71 10 2) else bd2 (f_Sh_hasItems (42 - 2 * t) a4 a5 h26) (fun v30 h31 => if v30 = 0 then some (-10 - 2, sI h31 71 10 2) else ckk (cpk a2 a4 a5 60 60) (some (1, wC h31 (41 - 2 * s) (41 - 2 * t) a2 a4 a5)))) else some (-10 - 4, sI h 71 10 4) := by
  have z1 : inb (nI s) 4 = true := inb_lit hs (by omega)
  have z3 : inb (nI t) 4 = true := inb_lit ht (by omega)
  obtain ⟨q1, q2, q3⟩ := so_ s hs
  obtain ⟨r1, r2, r3⟩ := so_ t ht
  unfold f_CS_copy
  rw [c_isSheet, bd2_s, bI_if, if_pos z1, c_isSheet, bd2_s, bI_if, if_pos z3, z1, ckk_t, nI_clamp (by omega), q1, ltt_s, z3, ckk_t, nI_clamp (by omega), r1, ltt_s, lost_f hf e1, bd2_s, if_pos rfl, lost_f hf' e2, bd2_s, if_pos rfl]
  simp only [ltt_s, rI, e1, e2, q2, r2, c_fnd, bd2_s]
theorem m_copyF {s t f f' z z' : Nat} {a2 a4 a5 : Int32} {h : HP} (hs : s < 4) (ht : t < 4) (k4 : h.1 4 s = 1) (k4' : h.1 4 t = 1) (k3 : h.1 3 s = nI f) (k3' : h.1 3 t = nI f') (k2 : h.1 2 s = nI z) (k2' : h.1 2 t = nI z') : f_Mo_copy (nI s) a2 (nI t) a4 a5 h = if nI f = nI f' then (if a2 < 0 then some (-10 - 2, sI h 34 44 2) else if a4 < 0 then some (-10 - 2, sI h 34 44 2) else if a5 < 0 then some (-10 - 2, sI h 34 44 2) else if 0 < lg_cmp (Int32.toInt64 a2 + Int32.toInt64 a5) (Int32.toInt64 (nI z)) then some (-10 - 2, sI h 34 44 2) else if lg_cmp (Int32.toInt64 a4 + Int32.toInt64 a5) (Int32.toInt64 (nI z')) ≤ 0 then bd2 (lp_Mo_copy_120 (nI s) a2 (nI t) a4 a5 400 0 h) (fun _ h43 => bd2 (lp_Mo_copy_157 (nI s) a2 (nI t) a4 a5 400 0 h43) (fun _ h51 => some (1, h51))) else some (-10 - 2, sI h 34 44 2)) else some (-10 - 4, sI h 34 44 4) := by
  have z1 : inb (nI s) 4 = true := inb_lit hs (by omega)
  have z3 : inb (nI t) 4 = true := inb_lit ht (by omega)
  unfold f_Mo_copy
  rw [m_isSheet, bd2_s, bI_if, if_pos z1, m_isSheet, bd2_s, bI_if, if_pos z3]
  simp only [z1, z3, ckk_t, ltt_s, rA_nI (show s < 2 ^ 31 by omega), rA_nI (show t < 2 ^ 31 by omega), k4, k4', i1_0, if_false, k3, k3', k2, k2', m_fnd, bd2_s]
theorem sum_gt {i n z : Nat} (hi : i < 2 ^ 31) (hn : n < 2 ^ 31) (hz : z ≤ 60) : (0 < lg_cmp (Int32.toInt64 (nI i) + Int32.toInt64 (nI n)) (Int32.toInt64 (nI z))) ↔ z < i + n := by
  rw [lg_cmp_gt, nI_l hi, nI_l hn, nI_l (by omega), lN_add]
  exact pk_lLT (by omega) (by omega)
theorem sum_le {i n z : Nat} (hi : i < 2 ^ 31) (hn : n < 2 ^ 31) (hz : z ≤ 60) : (lg_cmp (Int32.toInt64 (nI i) + Int32.toInt64 (nI n)) (Int32.toInt64 (nI z)) ≤ 0) ↔ i + n ≤ z := by
  rw [lg_cmp_le, nI_l hi, nI_l hn, nI_l (by omega), lN_add]
  exact pk_lLE (by omega) (by omega)
theorem o_copy : op_copy Inv := fun a1 a2 a3 a4 a5 h hi => by
  by_cases z1 : inb a1 4 = true
  · by_cases z2 : inb a3 4 = true
    · obtain ⟨s, hs, e⟩ := (inb_iff (by omega)).mp z1
      subst e
      obtain ⟨t, ht, e⟩ := (inb_iff (by omega)).mp z2
      subst e
      obtain ⟨q1, q2, q3⟩ := so_ s hs
      obtain ⟨r1, r2, r3⟩ := so_ t ht
      have hls : s < 2 ^ 31 := by omega
      have hlt : t < 2 ^ 31 := by omega
      have hh := hi.2.2.2.2.2.1
      rcases hh.at hs with ⟨g1, g2⟩ | ⟨f, z, g1, g2, g3, g4, g5, g6, g7, g8⟩
      · refine ⟨-10 - 1, sI h 71 10 1, _, ?_, ?_, hi.find 1⟩
        · unfold f_CS_copy
          rw [c_isSheet, bd2_s, bI_if, if_pos z1, c_isSheet, bd2_s, bI_if, if_pos z2, z1, ckk_t, nI_clamp hls, q1, ltt_s, z2, ckk_t, ltt_s, lost_t g1, bd2_s, if_neg i1_0, c_fnd, bd2_s]
        · have e4 : (sI h 71 10 1).1 4 s = 0 := by rw [sI_na (by decide)]; exact g2
          unfold f_Mo_copy
          rw [m_isSheet, bd2_s, bI_if, if_pos z1, m_isSheet, bd2_s, bI_if, if_pos z2, z1, ckk_t, rA_nI hls, e4, ltt_s, if_pos rfl, m_fnd, bd2_s]
      · rcases hh.at ht with ⟨k1, k2⟩ | ⟨f', z', k1, k2, k3, k4, k5, k6, k7, k8⟩
        · refine ⟨-10 - 1, sI h 71 10 1, _, ?_, ?_, hi.find 1⟩
          · unfold f_CS_copy
            rw [c_isSheet, bd2_s, bI_if, if_pos z1, c_isSheet, bd2_s, bI_if, if_pos z2, z1, ckk_t, nI_clamp hls, q1, ltt_s, z2, ckk_t, nI_clamp hlt, r1, ltt_s, lost_f g1 g3, bd2_s, if_pos rfl, lost_t k1, bd2_s, if_neg i1_0, c_fnd, bd2_s]
          · have e4 : (sI h 71 10 1).1 4 s = 1 := by rw [sI_na (by decide)]; exact g4
            have e4' : (sI h 71 10 1).1 4 t = 0 := by rw [sI_na (by decide)]; exact k2
            unfold f_Mo_copy
            rw [m_isSheet, bd2_s, bI_if, if_pos z1, m_isSheet, bd2_s, bI_if, if_pos z2, z1, ckk_t, rA_nI hls, e4, ltt_s, if_neg i1_0, z2, ckk_t, rA_nI hlt, e4', ltt_s, if_pos rfl, m_fnd, bd2_s]
        · have ec := c_copyF (z := z) (z' := z') (a2 := a2) (a4 := a4) (a5 := a5) hs ht g1 k1 g3 k3
          have em : ∀ x, f_Mo_copy (nI s) a2 (nI t) a4 a5 (sI h 71 10 x) = _ := fun x => m_copyF (h := sI h 71 10 x) (f := f) (f' := f') (z := z) (z' := z') (a2 := a2) (a4 := a4) (a5 := a5) hs ht (by rw [sI_na (by decide)]; exact g4) (by rw [sI_na (by decide)]; exact k4) (by rw [sI_na (by decide)]; exact g5) (by rw [sI_na (by decide)]; exact k5) (by rw [sI_na (by decide)]; exact g7) (by rw [sI_na (by decide)]; exact k7)
          by_cases y1 : nI f = nI f'
          · rw [if_pos y1] at ec
            have em2 := em 2
            rw [if_pos y1] at em2
            by_cases n2 : a2 < 0
            · rw [c_hasN1 n2, bd2_s, if_pos rfl] at ec
              rw [if_pos n2] at em2
              exact ⟨_, _, _, ec, em2, hi.find 2⟩
            · rw [if_neg n2] at em2
              by_cases n5 : a5 < 0
              · rw [c_hasN2 n2 n5, bd2_s, if_pos rfl] at ec
                by_cases n4 : a4 < 0
                · rw [if_pos n4] at em2
                  exact ⟨_, _, _, ec, em2, hi.find 2⟩
                · rw [if_neg n4, if_pos n5] at em2
                  exact ⟨_, _, _, ec, em2, hi.find 2⟩
              · obtain ⟨i, i1, e⟩ := nI_of n2
                subst e
                obtain ⟨n, n1, e⟩ := nI_of n5
                subst e
                rw [c_has g2 i1 n1 g6, bd2_s] at ec
                by_cases y2 : i + n ≤ z
                · rw [if_pos y2, if_neg i1_0] at ec
                  by_cases n4 : a4 < 0
                  · rw [c_hasN1 n4, bd2_s, if_pos rfl] at ec
                    rw [if_pos n4] at em2
                    exact ⟨_, _, _, ec, em2, hi.find 2⟩
                  · obtain ⟨j, j1, e⟩ := nI_of n4
                    subst e
                    rw [c_has k2 j1 n1 k6, bd2_s] at ec
                    by_cases y3 : j + n ≤ z'
                    · rw [if_pos y3, if_neg i1_0] at ec
                      have hck : cpk (nI i) (nI j) (nI n) 60 60 = true := by
                        unfold cpk
                        rw [nI_clamp i1, nI_clamp j1, nI_clamp n1, decide_eq_true n2, decide_eq_true n4, decide_eq_true n5, decide_eq_true (show i + n ≤ 60 by omega), decide_eq_true (show j + n ≤ 60 by omega)]
                        rfl
                      rw [hck, ckk_t] at ec
                      obtain ⟨h1, e1⟩ : ∃ h1, h1 = wC h (41 - 2 * s) (41 - 2 * t) (nI i) (nI j) (nI n) := ⟨_, rfl⟩
                      rw [← e1] at ec
                      have nr : ∀ a, a ≠ 41 - 2 * t → h1.1 a = h.1 a := fun a ha => by
                        rw [e1]
                        show (if a = 41 - 2 * t then _ else h.1 a) = h.1 a
                        rw [if_neg ha]
                      have rr : h1.1 (41 - 2 * t) = va_cpy (h.1 (41 - 2 * s)) (h.1 (41 - 2 * t)) i j n := by
                        rw [e1]
                        show (if 41 - 2 * t = 41 - 2 * t then va_cpy (h.1 (41 - 2 * s)) (h.1 (41 - 2 * t)) (nI i).toNatClampNeg (nI j).toNatClampNeg (nI n).toNatClampNeg else _) = _
                        rw [if_pos rfl, nI_clamp i1, nI_clamp j1, nI_clamp n1]
                      have em3 := m_copyF (h := h1) (f := f) (f' := f') (z := z) (z' := z') (a2 := nI i) (a4 := nI j) (a5 := nI n) hs ht (by rw [nr 4 (by omega)]; exact g4) (by rw [nr 4 (by omega)]; exact k4) (by rw [nr 3 (by omega)]; exact g5) (by rw [nr 3 (by omega)]; exact k5) (by rw [nr 2 (by omega)]; exact g7) (by rw [nr 2 (by omega)]; exact k7)
                      rw [if_pos y1, if_neg n2, if_neg n4, if_neg n5, if_neg (fun w => by have := (sum_gt i1 n1 g2).mp w; omega), if_pos ((sum_le j1 n1 k2).mpr y3)] at em3
                      obtain ⟨v, h2, e2, p2, f2⟩ := l_c120 (i := i) (n := n) (a3 := nI t) (a4 := nI j) hs (by omega) 400 0 h1 (Nat.zero_le _) (by omega) (fun p hp => absurd hp (Nat.not_lt_zero _))
                      obtain ⟨w, h3, e3, p3, p4, f3⟩ := l_c157 (j := j) (n := n) (a1 := nI s) (a2 := nI i) ht (by omega) 400 0 h2 (Nat.zero_le _) (by omega) (fun p hp => absurd hp (Nat.not_lt_zero _))
                      rw [show lp_Mo_copy_120 (nI s) (nI i) (nI t) (nI j) (nI n) 400 0 h1 = some (v, h2) from e2, bd2_s, show lp_Mo_copy_157 (nI s) (nI i) (nI t) (nI j) (nI n) 400 0 h2 = some (w, h3) from e3, bd2_s] at em3
                      have f1 : FR [41 - 2 * t] h h1 := by
                        rw [e1]
                        refine ⟨rfl, fun a ha => ?_⟩
                        show (if a = 41 - 2 * t then _ else h.1 a) = h.1 a
                        rw [if_neg (fun z => ha (by rw [z]; simp))]
                      have f4 : FR (shL t) h h3 := FR.tr (f1.mono (fun q hq => by
                        simp only [List.mem_cons, List.not_mem_nil, or_false] at hq
                        subst hq
                        exact shL_r)) (FR.tr (f2.mono (fun q hq => shL_k (by
                          simp only [List.mem_cons, List.not_mem_nil, or_false] at hq ⊢
                          omega))) (f3.mono (fun q hq => shL_k (by
                          simp only [List.mem_cons, List.not_mem_nil, or_false] at hq ⊢
                          omega))))
                      have nc : ∀ a, a ≠ 41 - 2 * t → a ≠ 0 → a ≠ 1 → h3.1 a = h.1 a := fun a x1 x2 x3 => by
                        rw [f3.2 a (by simp only [List.mem_cons, List.not_mem_nil, or_false]; exact x3), f2.2 a (by simp only [List.mem_cons, List.not_mem_nil, or_false]; exact x2), nr a x1]
                      have k : SX t h h3 := SX.of f4 (by rw [nc 34 (by omega) (by omega) (by omega)]) (by rw [nc 34 (by omega) (by omega) (by omega)])
                      have b1 : ∀ x, h2.1 1 x = h.1 1 x := fun x => by rw [f2.e 1, nr 1 (by omega)]
                      refine ⟨1, h1, h3, ec, em3, hi.sx ht k ?_ (hh.upd ht k (fun j' hj => ?_) (fun j' hj => ?_) (fun j' hj => ?_) (fun j' hj => ?_) (Or.inr ⟨f', z', k1, k2, ?_, ?_, ?_, ?_, ?_, fun i' hi' => ?_⟩))⟩
                      · unfold FB
                        rw [nc 71 (by omega) (by omega) (by omega), nc 34 (by omega) (by omega) (by omega)]
                        exact hi.2.2.2.2.1
                      · rw [nc 4 (by omega) (by omega) (by omega)]
                      · rw [nc 3 (by omega) (by omega) (by omega)]
                      · rw [nc 2 (by omega) (by omega) (by omega)]
                      · rw [p4 j' (by omega), b1]
                      · rw [nc _ (by omega) (by omega) (by omega)]; exact k3
                      · rw [nc 4 (by omega) (by omega) (by omega)]; exact k4
                      · rw [nc 3 (by omega) (by omega) (by omega)]; exact k5
                      · rw [nc _ (by omega) (by omega) (by omega)]; exact k6
                      · rw [nc 2 (by omega) (by omega) (by omega)]; exact k7
                      · have x1 : 41 - 2 * t ∉ [1] := by simp only [List.mem_cons, List.not_mem_nil, or_false]; omega
                        have x2 : 41 - 2 * t ∉ [0] := by simp only [List.mem_cons, List.not_mem_nil, or_false]; omega
                        rw [f3.2 _ x1, f2.2 _ x2, rr]
                        by_cases w1 : j ≤ i' ∧ i' < j + n
                        · have p5 := p3 (i' - j) (by omega)
                          rw [show 60 * t + j + (i' - j) = 60 * t + i' by omega, p2 (i' - j) (by omega), nr 1 (by omega)] at p5
                          rw [p5, pk_cpy_in w1.1 w1.2, g8 _ (by omega)]
                          rw [show 60 * s + (i + (i' - j)) = 60 * s + i + (i' - j) by omega]
                        · rw [pk_cpy_out (by omega), p4 (60 * t + i') (by omega), b1]
                          exact k8 i' hi'
                    · rw [if_neg y3, if_pos rfl] at ec
                      rw [if_neg n4, if_neg n5, if_neg (fun w => by have := (sum_gt i1 n1 g2).mp w; omega), if_neg (fun w => y3 ((sum_le j1 n1 k2).mp w))] at em2
                      exact ⟨_, _, _, ec, em2, hi.find 2⟩
                · rw [if_neg y2, if_pos rfl] at ec
                  by_cases n4 : a4 < 0
                  · rw [if_pos n4] at em2
                    exact ⟨_, _, _, ec, em2, hi.find 2⟩
                  · rw [if_neg n4, if_neg n5, if_pos ((sum_gt i1 n1 g2).mpr (by omega))] at em2
                    exact ⟨_, _, _, ec, em2, hi.find 2⟩
          · have em4 := em 4
            rw [if_neg y1] at ec em4
            exact ⟨_, _, _, ec, em4, hi.find 4⟩
    · refine ⟨-2, h, h, ?_, ?_, hi⟩
      · unfold f_CS_copy
        rw [c_isSheet, bd2_s, bI_if, if_pos z1, c_isSheet, bd2_s, bI_if, if_neg z2]
      · unfold f_Mo_copy
        rw [m_isSheet, bd2_s, bI_if, if_pos z1, m_isSheet, bd2_s, bI_if, if_neg z2]
  · refine ⟨-2, h, h, ?_, ?_, hi⟩
    · unfold f_CS_copy
      rw [c_isSheet, bd2_s, bI_if, if_neg z1]
    · unfold f_Mo_copy
      rw [m_isSheet, bd2_s, bI_if, if_neg z1]
