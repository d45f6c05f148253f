/-! sets as numbers; sums over sets; lowest terms -/
def fup (f : Nat → Bool) (j : Nat) (v : Bool) : Nat → Bool := fun i => if i = j then v else f i
def mix (j s : Nat) (f : Nat → Bool) : Nat → Bool := fun i => if i < j then s.testBit i else f i
def pw (u : Nat → Nat) : Nat → Nat
  | 0 => 1
  | j + 1 => pw u j * u j
def TT (a b : Nat → Nat) (B : (Nat → Bool) → Nat) : Nat → (Nat → Bool) → Nat
  | 0, f => B f
  | j + 1, f => b j * TT a b B j (fup f j false) + a j * TT a b B j (fup f j true)
def pcB (p : Nat → Bool) : Nat → Nat
  | 0 => 0
  | j + 1 => pcB p j + (if p j = true then 1 else 0)
theorem pw_cong {u v : Nat → Nat} : ∀ j, (∀ i, i < j → u i = v i) → pw u j = pw v j
  | 0, _ => rfl
  | j + 1, h => by
    show pw u j * u j = pw v j * v j
    rw [pw_cong j (fun i hi => h i (by omega)), h j (by omega)]
theorem pw_zero {u : Nat → Nat} : ∀ j i, i < j → u i = 0 → pw u j = 0
  | 0, i, h, _ => by omega
  | j + 1, i, h, hz => by
    show pw u j * u j = 0
    by_cases e : i = j
    · subst e
      rw [hz, Nat.mul_zero]
    · rw [pw_zero j i (by omega) hz, Nat.zero_mul]
theorem pw_le {u : Nat → Nat} (h : ∀ i, u i ≤ 16) : ∀ j, pw u j ≤ 16 ^ j
  | 0 => Nat.le_refl _
  | j + 1 => by
    show pw u j * u j ≤ 16 ^ j * 16
    exact Nat.mul_le_mul (pw_le h j) (h j)
theorem pcB_cong {p q : Nat → Bool} : ∀ j, (∀ i, i < j → p i = q i) → pcB p j = pcB q j
  | 0, _ => rfl
  | j + 1, h => by
    show pcB p j + _ = pcB q j + _
    rw [pcB_cong j (fun i hi => h i (by omega)), h j (by omega)]
theorem pcB_le (p : Nat → Bool) : ∀ j, pcB p j ≤ j
  | 0 => Nat.le_refl _
  | j + 1 => by
    have := pcB_le p j
    show pcB p j + _ ≤ j + 1
    split <;> omega
theorem sumN_split {f : Nat → Nat} {a : Nat} : ∀ b, sumN (a + b) f = sumN a f + sumN b (fun s => f (a + s))
  | 0 => rfl
  | b + 1 => by
    show sumN (a + b) f + f (a + b) = sumN a f + (sumN b (fun s => f (a + s)) + f (a + b))
    rw [sumN_split b]
    omega
theorem sumN_mul {f : Nat → Nat} {c : Nat} : ∀ n, sumN n (fun s => c * f s) = c * sumN n f
  | 0 => rfl
  | n + 1 => by
    show sumN n (fun s => c * f s) + c * f n = c * (sumN n f + f n)
    rw [sumN_mul n, Nat.mul_add]
theorem set_sum {a b : Nat → Nat} {B : (Nat → Bool) → Nat} : ∀ j f, sumN (2 ^ j) (fun s => pw (fun i => if s.testBit i = true then a i else b i) j * B (mix j s f)) = TT a b B j f
  | 0, f => by
    show 0 + 1 * B (mix 0 0 f) = B f
    have e : mix 0 0 f = f := by
      funext i
      unfold mix
      rw [if_neg (Nat.not_lt_zero _)]
    rw [e]
    omega
  | j + 1, f => by
    have h2 : 2 ^ (j + 1) = 2 ^ j + 2 ^ j := by
      rw [Nat.pow_succ]
      omega
    have p1 : sumN (2 ^ j) (fun s => pw (fun i => if s.testBit i = true then a i else b i) (j + 1) * B (mix (j + 1) s f)) = b j * TT a b B j (fup f j false) := by
      rw [← set_sum j (fup f j false), ← sumN_mul]
      refine sumN_cong _ (fun s hs => ?_)
      have t : s.testBit j = false := Nat.testBit_lt_two_pow hs
      have m : mix (j + 1) s f = mix j s (fup f j false) := by
        funext i
        unfold mix fup
        by_cases h1 : i < j
        · rw [if_pos (by omega), if_pos h1]
        · rw [if_neg h1]
          by_cases h3 : i = j
          · subst h3
            rw [if_pos (by omega), if_pos rfl, t]
          · rw [if_neg (by omega), if_neg h3]
      show pw (fun i => if s.testBit i = true then a i else b i) j * (if s.testBit j = true then a j else b j) * B (mix (j + 1) s f) = _
      rw [m, t, if_neg (by decide), Nat.mul_comm (pw _ j) (b j), Nat.mul_assoc]
    have p2 : sumN (2 ^ j) (fun s => pw (fun i => if (2 ^ j + s).testBit i = true then a i else b i) (j + 1) * B (mix (j + 1) (2 ^ j + s) f)) = a j * TT a b B j (fup f j true) := by
      rw [← set_sum j (fup f j true), ← sumN_mul]
      refine sumN_cong _ (fun s hs => ?_)
      have t : (2 ^ j + s).testBit j = true := by
        rw [Nat.testBit_two_pow_add_eq, Nat.testBit_lt_two_pow hs]
        rfl
      have t2 : ∀ i, i < j → (2 ^ j + s).testBit i = s.testBit i := fun i hi => Nat.testBit_two_pow_add_gt hi s
      have m : mix (j + 1) (2 ^ j + s) f = mix j s (fup f j true) := by
        funext i
        unfold mix fup
        by_cases h1 : i < j
        · rw [if_pos (by omega), if_pos h1, t2 i h1]
        · rw [if_neg h1]
          by_cases h3 : i = j
          · subst h3
            rw [if_pos (by omega), if_pos rfl, t]
          · rw [if_neg (by omega), if_neg h3]
      show pw (fun i => if (2 ^ j + s).testBit i = true then a i else b i) j * (if (2 ^ j + s).testBit j = true then a j else b j) * B (mix (j + 1) (2 ^ j + s) f) = _
      rw [m, t, if_pos rfl, pw_cong (u := fun i => if (2 ^ j + s).testBit i = true then a i else b i) (v := fun i => if s.testBit i = true then a i else b i) j (fun i hi => by rw [t2 i hi]), Nat.mul_comm (pw _ j) (a j), Nat.mul_assoc]
    rw [h2, sumN_split]
    show _ = b j * TT a b B j (fup f j false) + a j * TT a b B j (fup f j true)
    rw [p1, p2]
theorem tt_cmp {c e n : Nat} {ow : Nat → Bool} {BM BC : (Nat → Bool) → Nat} (hce : c + e = 16) (hB : ∀ f g, (∀ i, i < n → ow i = true → f i = !g i) → BM f = BC g) : ∀ j, j ≤ n → ∀ f g, (∀ i, j ≤ i → i < n → ow i = true → f i = !g i) → TT (fun _ => e) (fun _ => c) BM j f = 16 ^ pcB (fun i => !ow i) j * TT (fun i => if ow i = true then c else 0) (fun i => if ow i = true then e else 1) BC j g
  | 0, _, f, g, h => by
    show BM f = 1 * BC g
    rw [Nat.one_mul]
    exact hB f g (fun i hi ho => h i (Nat.zero_le _) hi ho)
  | j + 1, hj, f, g, h => by
    have ih := tt_cmp hce hB j (by omega)
    show c * TT (fun _ => e) (fun _ => c) BM j (fup f j false) + e * TT (fun _ => e) (fun _ => c) BM j (fup f j true) = 16 ^ (pcB (fun i => !ow i) j + (if (!ow j) = true then 1 else 0)) * ((if ow j = true then e else 1) * TT (fun i => if ow i = true then c else 0) (fun i => if ow i = true then e else 1) BC j (fup g j false) + (if ow j = true then c else 0) * TT (fun i => if ow i = true then c else 0) (fun i => if ow i = true then e else 1) BC j (fup g j true))
    have cond : ∀ u v, (ow j = true → u = !v) → ∀ i, j ≤ i → i < n → ow i = true → fup f j u i = !(fup g j v i) := fun u v huv i h1 h2 h3 => by
      unfold fup
      by_cases ei : i = j
      · rw [if_pos ei, if_pos ei]
        exact huv (by rw [← ei]; exact h3)
      · rw [if_neg ei, if_neg ei]
        exact h i (by omega) h2 h3
    by_cases z : ow j = true
    · rw [ih (fup f j false) (fup g j true) (cond false true (fun _ => rfl)), ih (fup f j true) (fup g j false) (cond true false (fun _ => rfl))]
      rw [if_pos z, if_pos z, z]
      show _ = 16 ^ (pcB (fun i => !ow i) j + 0) * _
      rw [Nat.add_zero, Nat.mul_add, Nat.mul_left_comm c, Nat.mul_left_comm e, Nat.add_comm]
    · have z' : ow j = false := by simpa using z
      rw [ih (fup f j false) (fup g j false) (cond false false (fun y => absurd y z)), ih (fup f j true) (fup g j false) (cond true false (fun y => absurd y z))]
      rw [if_neg z, if_neg z, z']
      show _ = 16 ^ (pcB (fun i => !ow i) j + 1) * _
      rw [Nat.zero_mul, Nat.add_zero, Nat.one_mul, ← Nat.add_mul, hce, Nat.pow_succ, Nat.mul_comm (16 ^ pcB (fun i => !ow i) j) 16, Nat.mul_assoc]
      rfl
theorem tt_up {c e n : Nat} {ow : Nat → Bool} {BM BC : (Nat → Bool) → Nat} (hce : c + e = 16) (hB : ∀ f g, (∀ i, i < n → ow i = true → f i = !g i) → BM f = BC g) (hw : ∀ i, n ≤ i → ow i = false) : ∀ m, n ≤ m → ∀ f g, TT (fun _ => e) (fun _ => c) BM n f = 16 ^ pcB (fun i => !ow i) n * TT (fun i => if ow i = true then c else 0) (fun i => if ow i = true then e else 1) BC m g
  | 0, hm, f, g => by
    have e : n = 0 := by omega
    subst e
    exact tt_cmp hce hB 0 (Nat.le_refl _) f g (fun i _ h2 => absurd h2 (Nat.not_lt_zero _))
  | m + 1, hm, f, g => by
    by_cases z : n = m + 1
    · subst z
      exact tt_cmp hce hB (m + 1) (Nat.le_refl _) f g (fun i h1 h2 => by omega)
    · have z2 : ow m = false := hw m (by omega)
      have z3 : ¬ ow m = true := by rw [z2]; decide
      rw [tt_up hce hB hw m (by omega) f (fup g m false)]
      show _ = 16 ^ pcB (fun i => !ow i) n * ((if ow m = true then e else 1) * TT (fun i => if ow i = true then c else 0) (fun i => if ow i = true then e else 1) BC m (fup g m false) + (if ow m = true then c else 0) * TT (fun i => if ow i = true then c else 0) (fun i => if ow i = true then e else 1) BC m (fup g m true))
      rw [if_neg z3, if_neg z3, Nat.zero_mul, Nat.add_zero, Nat.one_mul]
theorem odd_gcd {A q : Nat} (h : A % 2 = 1) : Nat.gcd A (2 ^ q) = 1 := by
  have h2 : Nat.gcd A 2 = 1 := by
    rw [Nat.gcd_comm, Nat.gcd_rec, h]
    decide
  exact Nat.Coprime.pow_right q h2
theorem even_gcd {B q : Nat} : 2 * B / Nat.gcd (2 * B) (2 ^ (q + 1)) = B / Nat.gcd B (2 ^ q) ∧ 2 ^ (q + 1) / Nat.gcd (2 * B) (2 ^ (q + 1)) = 2 ^ q / Nat.gcd B (2 ^ q) := by
  have e : 2 ^ (q + 1) = 2 * 2 ^ q := by rw [Nat.pow_succ, Nat.mul_comm]
  rw [e, Nat.gcd_mul_left]
  exact ⟨Nat.mul_div_mul_left _ _ (by decide), Nat.mul_div_mul_left _ _ (by decide)⟩
/-- numbers by their bits -/
def nb (p : Nat → Bool) : Nat → Nat
  | 0 => 0
  | j + 1 => nb p j + (if p j = true then 2 ^ j else 0)
theorem nb_lt (p : Nat → Bool) : ∀ j, nb p j < 2 ^ j
  | 0 => Nat.one_pos
  | j + 1 => by
    have h := nb_lt p j
    have e : 2 ^ (j + 1) = 2 ^ j + 2 ^ j := by
      rw [Nat.pow_succ]
      omega
    show nb p j + (if p j = true then 2 ^ j else 0) < 2 ^ (j + 1)
    rw [e]
    split <;> omega
theorem nb_bit (p : Nat → Bool) : ∀ j i, (nb p j).testBit i = (decide (i < j) && p i)
  | 0, i => by
    show (0 : Nat).testBit i = _
    rw [Nat.zero_testBit, decide_eq_false (Nat.not_lt_zero _)]
    rfl
  | j + 1, i => by
    have ih := nb_bit p j i
    by_cases h1 : i < j
    · rw [decide_eq_true (show i < j + 1 by omega), Bool.true_and]
      rw [decide_eq_true h1, Bool.true_and] at ih
      show (nb p j + (if p j = true then 2 ^ j else 0)).testBit i = p i
      by_cases z : p j = true
      · rw [if_pos z, Nat.add_comm, Nat.testBit_two_pow_add_gt h1]
        exact ih
      · rw [if_neg z, Nat.add_zero]
        exact ih
    · by_cases h2 : i = j
      · subst h2
        rw [decide_eq_true (show i < i + 1 by omega), Bool.true_and]
        show (nb p i + (if p i = true then 2 ^ i else 0)).testBit i = p i
        by_cases z : p i = true
        · rw [if_pos z, Nat.add_comm, Nat.testBit_two_pow_add_eq, Nat.testBit_lt_two_pow (nb_lt p i), z]
          rfl
        · rw [if_neg z, Nat.add_zero, Nat.testBit_lt_two_pow (nb_lt p i)]
          simpa using (show p i = false by simpa using z).symm
      · rw [decide_eq_false (show ¬ i < j + 1 by omega), Bool.false_and]
        exact Nat.testBit_lt_two_pow (Nat.lt_of_lt_of_le (nb_lt p (j + 1)) (Nat.pow_le_pow_right (by decide) (by omega)))
theorem bt_nI {s i : Nat} (hi : i < 32) : bt (nI s) i = s.testBit i := by
  show (BitVec.ofNat 32 s).getLsbD i = _
  rw [BitVec.getLsbD_ofNat]
  simp [hi]
def lof (f : Nat → Bool) : Int32 := nI (nb f 8)
theorem lof_b {f : Nat → Bool} {i : Nat} (hi : i < 32) : bt (lof f) i = (decide (i < 8) && f i) := by
  unfold lof
  rw [bt_nI hi, nb_bit]
theorem lof_t {f : Nat → Bool} {i : Nat} (hi : i < 8) : tbit (lof f) i = f i := by
  rw [tbit_bt (by omega), lof_b (by omega), decide_eq_true hi, Bool.true_and]
theorem bts_b {p : Nat → Bool} : ∀ n, n ≤ 32 → ∀ i, i < 32 → bt (bts p n) i = (decide (i < n) && p i)
  | 0, _, i, _ => by
    show bt 0 i = _
    rw [b_0, decide_eq_false (Nat.not_lt_zero _)]
    rfl
  | n + 1, h, i, hi => by
    have ih := bts_b (p := p) n (by omega) i hi
    rw [bts_s]
    by_cases e : i = n
    · subst e
      rw [decide_eq_false (Nat.lt_irrefl _), Bool.false_and] at ih
      rw [decide_eq_true (Nat.lt_succ_self _), Bool.true_and]
      by_cases z : p i = true
      · rw [if_pos z, b_or, bt_one (by omega) hi, ih, z]
        simp
      · rw [if_neg z, ih]
        simpa using (show p i = false by simpa using z).symm
    · have e2 : decide (i < n + 1) = decide (i < n) := by
        by_cases y : i < n
        · rw [decide_eq_true y, decide_eq_true (by omega)]
        · rw [decide_eq_false y, decide_eq_false (by omega)]
      rw [e2, ← ih]
      by_cases z : p n = true
      · rw [if_pos z, b_or, bt_one (by omega) hi, decide_eq_false e, Bool.or_false]
      · rw [if_neg z]
theorem bc_n : ∀ s, s < 256 → (f_In_bitCount (nI s) hz_).map (fun p => p.1) = some (nI (pcB (fun i => s.testBit i) 8)) := by decide +kernel
theorem c_bc {p : Nat → Bool} {h : HP} : f_In_bitCount (lof p) h = some (nI (pcB p 8), h) := by
  have h1 := nb_lt p 8
  have h2 := bc_n (nb p 8) h1
  rw [pcB_cong (p := fun i => (nb p 8).testBit i) (q := p) 8 (fun i hi => by rw [nb_bit, decide_eq_true hi, Bool.true_and])] at h2
  exact bc_v h2
/-- the weight of a set of one's own straws, by its two powers -/
theorem pw_two {c e : Nat} {ow m : Nat → Bool} : ∀ j, (∀ i, i < j → m i = true → ow i = true) → c ^ pcB m j * e ^ pcB (fun i => ow i && !m i) j = pw (fun i => if m i = true then (if ow i = true then c else 0) else (if ow i = true then e else 1)) j
  | 0, _ => rfl
  | j + 1, h => by
    have ih := pw_two (c := c) (e := e) (ow := ow) (m := m) j (fun i hi => h i (by omega))
    show c ^ (pcB m j + (if m j = true then 1 else 0)) * e ^ (pcB (fun i => ow i && !m i) j + (if (ow j && !m j) = true then 1 else 0)) = pw _ j * (if m j = true then (if ow j = true then c else 0) else (if ow j = true then e else 1))
    rw [← ih]
    by_cases z : m j = true
    · have z2 := h j (by omega) z
      rw [if_pos z, if_pos z, if_pos z2, z, z2]
      show c ^ (pcB m j + 1) * e ^ (pcB (fun i => ow i && !m i) j + 0) = _
      rw [Nat.pow_succ, Nat.mul_right_comm]
      rfl
    · have z' : m j = false := by simpa using z
      rw [if_neg z, if_neg z, z', Nat.add_zero]
      by_cases y : ow j = true
      · rw [if_pos y, y]
        show c ^ pcB m j * e ^ (pcB (fun i => ow i && !m i) j + 1) = _
        rw [Nat.pow_succ, Nat.mul_assoc]
      · rw [if_neg y, show ow j = false by simpa using y]
        show c ^ pcB m j * e ^ (pcB (fun i => ow i && !m i) j + 0) = _
        rw [Nat.add_zero, Nat.mul_one]
