/-! pure part, first rows; the law's loop out of what each call does -/
theorem bd1_s {α β : Type} (a : α) (f : α → Option β) : bd1 (some a) f = f a := rfl
theorem bd2_s {α β γ : Type} (a : α) (b : β) (f : α → β → Option γ) : bd2 (some (a, b)) f = f a b := rfl
theorem bd3_s {α β γ δ : Type} (a : α) (b : β) (c : γ) (f : α → β → γ → Option δ) : bd3 (some (a, b, c)) f = f a b c := rfl
theorem bd4_s {α β γ δ ε : Type} (a : α) (b : β) (c : γ) (d : δ) (f : α → β → γ → δ → Option ε) : bd4 (some (a, b, c, d)) f = f a b c d := rfl
theorem bd5_s {α β γ δ ε ζ : Type} (a : α) (b : β) (c : γ) (d : δ) (e : ε) (f : α → β → γ → δ → ε → Option ζ) : bd5 (some (a, b, c, d, e)) f = f a b c d e := rfl
theorem ltt_s {α β : Type} (v : α) (f : α → Option β) : ltt v f = f v := rfl
theorem ckk_t {β : Type} (o : Option β) : ckk true o = o := rfl
theorem inb_nI {k n : Nat} (h : k < n) (hn : n < 2 ^ 31) : inb (nI k) n = true := by
  unfold inb
  exact decide_eq_true (nI_in h hn)
theorem lgc_rfl (x : Int64) : lg_cmp x x = 0 := by
  unfold lg_cmp
  rw [if_neg (by simp), if_pos rfl]
theorem nI_lit6 : (6 : Int32) = nI 6 := rfl
theorem law_cond {i L : Nat} (hi : i ≤ 390) (hL : L ≤ 384) : (Int32.ofNat L - 6 < nI i) ↔ L < i + 6 := by
  have h1 : (nI L - nI 6).toInt = (L : Int) - 6 := pk_sub_toInt (by omega) (by omega)
  have h2 : (nI i).toInt = (i : Int) := nI_toInt (by omega)
  have h3 : (Int32.ofNat L - 6 < nI i) ↔ (nI L - nI 6).toInt < (nI i).toInt := Int32.lt_iff_toInt_lt
  rw [h3, h1, h2]
  omega
def op_type (Inv : HP → Prop) : Prop := ∀ (a1 a2 : Int32) (h : HP), Inv h → ∃ r h1 h2, f_CS_type a1 a2 h = some (r, h1) ∧ f_Mo_type a1 a2 h1 = some (r, h2) ∧ Inv h2
def op_wipe (Inv : HP → Prop) : Prop := ∀ (a1 : Int32) (h : HP), Inv h → ∃ r h1 h2, f_CS_wipe a1 h = some (r, h1) ∧ f_Mo_wipe a1 h1 = some (r, h2) ∧ Inv h2
def op_undo (Inv : HP → Prop) : Prop := ∀ (a1 : Int32) (h : HP), Inv h → ∃ r h1 h2, f_CS_undo a1 h = some (r, h1) ∧ f_Mo_undo a1 h1 = some (r, h2) ∧ Inv h2
def op_fault (Inv : HP → Prop) : Prop := ∀ (a1 : Int32) (h : HP), Inv h → ∃ r h1 h2, f_CS_fault a1 h = some (r, h1) ∧ f_Mo_fault a1 h1 = some (r, h2) ∧ Inv h2
def op_camel (Inv : HP → Prop) : Prop := ∀ (a1 a2 : Int32) (h : HP), Inv h → ∃ r h1 h2, f_CS_camel a1 a2 h = some (r, h1) ∧ f_Mo_camel a1 a2 h1 = some (r, h2) ∧ Inv h2
def op_bale (Inv : HP → Prop) : Prop := ∀ (a1 a2 : Int32) (h : HP), Inv h → ∃ r h1 h2, f_CS_bale a1 a2 h = some (r, h1) ∧ f_Mo_bale a1 a2 h1 = some (r, h2) ∧ Inv h2
def op_straw (Inv : HP → Prop) : Prop := ∀ (a1 a2 : Int32) (h : HP), Inv h → ∃ r h1 h2, f_CS_straw a1 a2 h = some (r, h1) ∧ f_Mo_straw a1 a2 h1 = some (r, h2) ∧ Inv h2
def op_back (Inv : HP → Prop) : Prop := ∀ (h : HP), Inv h → ∃ r h1 h2, f_CS_back h = some (r, h1) ∧ f_Mo_back h1 = some (r, h2) ∧ Inv h2
def op_read (Inv : HP → Prop) : Prop := ∀ (a1 : Int32) (h : HP), Inv h → ∃ r h1 h2, f_CS_read a1 h = some (r, h1) ∧ f_Mo_read a1 h1 = some (r, h2) ∧ Inv h2
def op_at (Inv : HP → Prop) : Prop := ∀ (a1 a2 a3 : Int32) (h : HP), Inv h → ∃ r h1 h2, f_CS_at a1 a2 a3 h = some (r, h1) ∧ f_Mo_at a1 a2 a3 h1 = some (r, h2) ∧ Inv h2
def op_through (Inv : HP → Prop) : Prop := ∀ (h : HP), Inv h → ∃ r h1 h2, f_CS_through h = some (r, h1) ∧ f_Mo_through h1 = some (r, h2) ∧ Inv h2
def op_lost (Inv : HP → Prop) : Prop := ∀ (h : HP), Inv h → ∃ r h1 h2, f_CS_lost h = some (r, h1) ∧ f_Mo_lost h1 = some (r, h2) ∧ Inv h2
def op_first (Inv : HP → Prop) : Prop := ∀ (a1 : Int32) (h : HP), Inv h → ∃ r h1 h2, f_CS_first a1 h = some (r, h1) ∧ f_Mo_first a1 h1 = some (r, h2) ∧ Inv h2
def op_best (Inv : HP → Prop) : Prop := ∀ (h : HP), Inv h → ∃ r h1 h2, f_CS_best h = some (r, h1) ∧ f_Mo_best h1 = some (r, h2) ∧ Inv h2
def op_whole (Inv : HP → Prop) : Prop := ∀ (h : HP), Inv h → ∃ r h1 h2, f_CS_whole h = some (r, h1) ∧ f_Mo_whole h1 = some (r, h2) ∧ Inv h2
def op_tired (Inv : HP → Prop) : Prop := ∀ (h : HP), Inv h → ∃ r h1 h2, f_CS_tired h = some (r, h1) ∧ f_Mo_tired h1 = some (r, h2) ∧ Inv h2
def op_last (Inv : HP → Prop) : Prop := ∀ (a1 a2 : Int32) (h : HP), Inv h → ∃ r h1 h2, f_CS_last a1 a2 h = some (r, h1) ∧ f_Mo_last a1 a2 h1 = some (r, h2) ∧ Inv h2
def op_bear (Inv : HP → Prop) : Prop := ∀ (a1 a2 : Int32) (h : HP), Inv h → ∃ r h1 h2, f_CS_bear a1 a2 h = some (r, h1) ∧ f_Mo_bear a1 a2 h1 = some (r, h2) ∧ Inv h2
def op_when (Inv : HP → Prop) : Prop := ∀ (a1 a2 : Int32) (h : HP), Inv h → ∃ r h1 h2, f_CS_when a1 a2 h = some (r, h1) ∧ f_Mo_when a1 a2 h1 = some (r, h2) ∧ Inv h2
def op_spare (Inv : HP → Prop) : Prop := ∀ (a1 : Int32) (h : HP), Inv h → ∃ r h1 h2, f_CS_spare a1 h = some (r, h1) ∧ f_Mo_spare a1 h1 = some (r, h2) ∧ Inv h2
def op_seen (Inv : HP → Prop) : Prop := ∀ (a1 a2 a3 : Int32) (h : HP), Inv h → ∃ r h1 h2, f_CS_seen a1 a2 a3 h = some (r, h1) ∧ f_Mo_seen a1 a2 a3 h1 = some (r, h2) ∧ Inv h2
def op_forget (Inv : HP → Prop) : Prop := ∀ (h : HP), Inv h → ∃ r h1 h2, f_CS_forget h = some (r, h1) ∧ f_Mo_forget h1 = some (r, h2) ∧ Inv h2
def op_never (Inv : HP → Prop) : Prop := ∀ (h : HP), Inv h → ∃ r h1 h2, f_CS_never h = some (r, h1) ∧ f_Mo_never h1 = some (r, h2) ∧ Inv h2
def op_was (Inv : HP → Prop) : Prop := ∀ (a1 a2 : Int32) (h : HP), Inv h → ∃ r h1 h2, f_CS_was a1 a2 h = some (r, h1) ∧ f_Mo_was a1 a2 h1 = some (r, h2) ∧ Inv h2
def op_ask (Inv : HP → Prop) : Prop := ∀ (a1 : Int32) (h : HP), Inv h → ∃ r h1 h2, f_CS_ask a1 h = some (r, h1) ∧ f_Mo_ask a1 h1 = some (r, h2) ∧ Inv h2
def op_chance (Inv : HP → Prop) : Prop := ∀ (a1 a2 a3 : Int32) (h : HP), Inv h → ∃ r h1 h2, f_CS_chance a1 a2 a3 h = some (r, h1) ∧ f_Mo_chance a1 a2 a3 h1 = some (r, h2) ∧ Inv h2
def op_years (Inv : HP → Prop) : Prop := ∀ (a1 a2 a3 : Int32) (h : HP), Inv h → ∃ r h1 h2, f_CS_years a1 a2 a3 h = some (r, h1) ∧ f_Mo_years a1 a2 a3 h1 = some (r, h2) ∧ Inv h2
def op_sheet (Inv : HP → Prop) : Prop := ∀ (a1 a2 a3 : Int32) (h : HP), Inv h → ∃ r h1 h2, f_CS_sheet a1 a2 a3 h = some (r, h1) ∧ f_Mo_sheet a1 a2 a3 h1 = some (r, h2) ∧ Inv h2
def op_lose (Inv : HP → Prop) : Prop := ∀ (a1 : Int32) (h : HP), Inv h → ∃ r h1 h2, f_CS_lose a1 h = some (r, h1) ∧ f_Mo_lose a1 h1 = some (r, h2) ∧ Inv h2
def op_put (Inv : HP → Prop) : Prop := ∀ (a1 a2 a3 a4 : Int32) (h : HP), Inv h → ∃ r h1 h2, f_CS_put a1 a2 a3 a4 h = some (r, h1) ∧ f_Mo_put a1 a2 a3 a4 h1 = some (r, h2) ∧ Inv h2
def op_get (Inv : HP → Prop) : Prop := ∀ (a1 a2 a3 : Int32) (h : HP), Inv h → ∃ r h1 h2, f_CS_get a1 a2 a3 h = some (r, h1) ∧ f_Mo_get a1 a2 a3 h1 = some (r, h2) ∧ Inv h2
def op_copy (Inv : HP → Prop) : Prop := ∀ (a1 a2 a3 a4 a5 : Int32) (h : HP), Inv h → ∃ r h1 h2, f_CS_copy a1 a2 a3 a4 a5 h = some (r, h1) ∧ f_Mo_copy a1 a2 a3 a4 a5 h1 = some (r, h2) ∧ Inv h2
def op_write (Inv : HP → Prop) : Prop := ∀ (a1 a2 : Int32) (h : HP), Inv h → ∃ r h1 h2, f_CS_write a1 a2 h = some (r, h1) ∧ f_Mo_write a1 a2 h1 = some (r, h2) ∧ Inv h2
def op_count (Inv : HP → Prop) : Prop := ∀ (a1 : Int32) (h : HP), Inv h → ∃ r h1 h2, f_CS_count a1 h = some (r, h1) ∧ f_Mo_count a1 h1 = some (r, h2) ∧ Inv h2
def op_digest (Inv : HP → Prop) : Prop := ∀ (h : HP), Inv h → ∃ r h1 h2, f_CS_digest h = some (r, h1) ∧ f_Mo_digest h1 = some (r, h2) ∧ Inv h2
def ops_ok (Inv : HP → Prop) : Prop := op_type Inv ∧ op_wipe Inv ∧ op_undo Inv ∧ op_fault Inv ∧ op_camel Inv ∧ op_bale Inv ∧ op_straw Inv ∧ op_back Inv ∧ op_read Inv ∧ op_at Inv ∧ op_through Inv ∧ op_lost Inv ∧ op_first Inv ∧ op_best Inv ∧ op_whole Inv ∧ op_tired Inv ∧ op_last Inv ∧ op_bear Inv ∧ op_when Inv ∧ op_spare Inv ∧ op_seen Inv ∧ op_forget Inv ∧ op_never Inv ∧ op_was Inv ∧ op_ask Inv ∧ op_chance Inv ∧ op_years Inv ∧ op_sheet Inv ∧ op_lose Inv ∧ op_put Inv ∧ op_get Inv ∧ op_copy Inv ∧ op_write Inv ∧ op_count Inv ∧ op_digest Inv
set_option maxHeartbeats 4000000 in
set_option maxRecDepth 20000 in
theorem law_loop {Inv : HP → Prop} (ho : ops_ok Inv) (L : Nat) (xs : Nat → Int32) (hL : L ≤ 384) : ∀ (fu i : Nat) (h : HP), Inv h → i ≤ L → L + 6 < i + 6 * fu → ∃ h', lp_Lw_law_18 L xs fu (nI i) h = some (1, h') := by
  obtain ⟨o_type, o_wipe, o_undo, o_fault, o_camel, o_bale, o_straw, o_back, o_read, o_at, o_through, o_lost, o_first, o_best, o_whole, o_tired, o_last, o_bear, o_when, o_spare, o_seen, o_forget, o_never, o_was, o_ask, o_chance, o_years, o_sheet, o_lose, o_put, o_get, o_copy, o_write, o_count, o_digest⟩ := ho
  intro fu
  induction fu with
  | zero => intro i h hI hi hf; omega
  | succ fu ih =>
    intro i h hI hi hf
    rw [lp_Lw_law_18]
    by_cases hc : L < i + 6
    · rw [if_pos ((law_cond (by omega) hL).mpr hc)]
      exact ⟨h, rfl⟩
    rw [if_neg (fun z => hc ((law_cond (by omega) hL).mp z))]
    have b0 : inb (nI i) L = true := inb_nI (by omega) (by omega)
    have b1 : inb (nI i + 1) L = true := by
      have e : nI i + 1 = nI (i + 1) := nI_add i 1
      rw [e]
      exact inb_nI (by omega) (by omega)
    have b2 : inb (nI i + 2) L = true := by
      have e : nI i + 2 = nI (i + 2) := nI_add i 2
      rw [e]
      exact inb_nI (by omega) (by omega)
    have b3 : inb (nI i + 3) L = true := by
      have e : nI i + 3 = nI (i + 3) := nI_add i 3
      rw [e]
      exact inb_nI (by omega) (by omega)
    have b4 : inb (nI i + 4) L = true := by
      have e : nI i + 4 = nI (i + 4) := nI_add i 4
      rw [e]
      exact inb_nI (by omega) (by omega)
    have b5 : inb (nI i + 5) L = true := by
      have e : nI i + 5 = nI (i + 5) := nI_add i 5
      rw [e]
      exact inb_nI (by omega) (by omega)
    have go : ∀ h2, Inv h2 → ∃ h', lp_Lw_law_18 L xs fu (nI i + 6) h2 = some (1, h') := fun h2 hI2 => by
      have e : nI i + 6 = nI (i + 6) := nI_add i 6
      rw [e]
      exact ih (i + 6) h2 hI2 (by omega) (by omega)
    simp only [b0, ckk_t, ltt_s]
    generalize (xs (Int32.toNatClampNeg (nI i)) &&& 63) = w
    by_cases c0 : w = 0
    · rw [if_pos c0]
      obtain ⟨r, h1, h2, e1, e2, hI2⟩ := o_type (xs (Int32.toNatClampNeg (nI i + 1))) (xs (Int32.toNatClampNeg (nI i + 2))) h hI
      simp only [b1, b2, ckk_t, ltt_s, e1, e2, bd2_s, if_true]
      exact go h2 hI2
    rw [if_neg c0]
    by_cases c1 : w = 1
    · rw [if_pos c1]
      obtain ⟨r, h1, h2, e1, e2, hI2⟩ := o_wipe (xs (Int32.toNatClampNeg (nI i + 1))) h hI
      simp only [b1, ckk_t, ltt_s, e1, e2, bd2_s, if_true]
      exact go h2 hI2
    rw [if_neg c1]
    by_cases c2 : w = 2
    · rw [if_pos c2]
      obtain ⟨r, h1, h2, e1, e2, hI2⟩ := o_undo (xs (Int32.toNatClampNeg (nI i + 1))) h hI
      simp only [b1, ckk_t, ltt_s, e1, e2, bd2_s, if_true]
      exact go h2 hI2
    rw [if_neg c2]
    by_cases c3 : w = 3
    · rw [if_pos c3]
      obtain ⟨r, h1, h2, e1, e2, hI2⟩ := o_fault (xs (Int32.toNatClampNeg (nI i + 1))) h hI
      simp only [b1, ckk_t, ltt_s, e1, e2, bd2_s, if_true]
      exact go h2 hI2
    rw [if_neg c3]
    by_cases c4 : w = 4
    · rw [if_pos c4]
      obtain ⟨r, h1, h2, e1, e2, hI2⟩ := o_camel (xs (Int32.toNatClampNeg (nI i + 1))) (xs (Int32.toNatClampNeg (nI i + 2))) h hI
      simp only [b1, b2, ckk_t, ltt_s, e1, e2, bd2_s, if_true]
      exact go h2 hI2
    rw [if_neg c4]
    by_cases c5 : w = 5
    · rw [if_pos c5]
      obtain ⟨r, h1, h2, e1, e2, hI2⟩ := o_bale (xs (Int32.toNatClampNeg (nI i + 1))) (xs (Int32.toNatClampNeg (nI i + 2))) h hI
      simp only [b1, b2, ckk_t, ltt_s, e1, e2, bd2_s, if_true]
      exact go h2 hI2
    rw [if_neg c5]
    by_cases c6 : w = 6
    · rw [if_pos c6]
      obtain ⟨r, h1, h2, e1, e2, hI2⟩ := o_straw (xs (Int32.toNatClampNeg (nI i + 1))) (xs (Int32.toNatClampNeg (nI i + 2))) h hI
      simp only [b1, b2, ckk_t, ltt_s, e1, e2, bd2_s, if_true]
      exact go h2 hI2
    rw [if_neg c6]
    by_cases c7 : w = 7
    · rw [if_pos c7]
      obtain ⟨r, h1, h2, e1, e2, hI2⟩ := o_back  h hI
      simp only [ckk_t, ltt_s, e1, e2, bd2_s, if_true]
      exact go h2 hI2
    rw [if_neg c7]
    by_cases c8 : w = 8
    · rw [if_pos c8]
      obtain ⟨r, h1, h2, e1, e2, hI2⟩ := o_read (xs (Int32.toNatClampNeg (nI i + 1))) h hI
      simp only [b1, ckk_t, ltt_s, e1, e2, bd2_s, if_true]
      exact go h2 hI2
    rw [if_neg c8]
    by_cases c9 : w = 9
    · rw [if_pos c9]
      obtain ⟨r, h1, h2, e1, e2, hI2⟩ := o_at (xs (Int32.toNatClampNeg (nI i + 1))) (xs (Int32.toNatClampNeg (nI i + 2))) (xs (Int32.toNatClampNeg (nI i + 3))) h hI
      simp only [b1, b2, b3, ckk_t, ltt_s, e1, e2, bd2_s, if_true]
      exact go h2 hI2
    rw [if_neg c9]
    by_cases c10 : w = 10
    · rw [if_pos c10]
      obtain ⟨r, h1, h2, e1, e2, hI2⟩ := o_through  h hI
      simp only [ckk_t, ltt_s, e1, e2, bd2_s, if_true]
      exact go h2 hI2
    rw [if_neg c10]
    by_cases c11 : w = 11
    · rw [if_pos c11]
      obtain ⟨r, h1, h2, e1, e2, hI2⟩ := o_lost  h hI
      simp only [ckk_t, ltt_s, e1, e2, bd2_s, if_true]
      exact go h2 hI2
    rw [if_neg c11]
    by_cases c12 : w = 12
    · rw [if_pos c12]
      obtain ⟨r, h1, h2, e1, e2, hI2⟩ := o_first (xs (Int32.toNatClampNeg (nI i + 1))) h hI
      simp only [b1, ckk_t, ltt_s, e1, e2, bd2_s, if_true]
      exact go h2 hI2
    rw [if_neg c12]
    by_cases c13 : w = 13
    · rw [if_pos c13]
      obtain ⟨r, h1, h2, e1, e2, hI2⟩ := o_best  h hI
      simp only [ckk_t, ltt_s, e1, e2, bd2_s, if_true]
      exact go h2 hI2
    rw [if_neg c13]
    by_cases c14 : w = 14
    · rw [if_pos c14]
      obtain ⟨r, h1, h2, e1, e2, hI2⟩ := o_whole  h hI
      simp only [ckk_t, ltt_s, e1, e2, bd2_s, if_true]
      exact go h2 hI2
    rw [if_neg c14]
    by_cases c15 : w = 15
    · rw [if_pos c15]
      obtain ⟨r, h1, h2, e1, e2, hI2⟩ := o_tired  h hI
      simp only [ckk_t, ltt_s, e1, e2, bd2_s, if_true]
      exact go h2 hI2
    rw [if_neg c15]
    by_cases c16 : w = 16
    · rw [if_pos c16]
      obtain ⟨r, h1, h2, e1, e2, hI2⟩ := o_last (xs (Int32.toNatClampNeg (nI i + 1))) (xs (Int32.toNatClampNeg (nI i + 2))) h hI
      simp only [b1, b2, ckk_t, ltt_s, e1, e2, bd2_s, if_true]
      exact go h2 hI2
    rw [if_neg c16]
    by_cases c17 : w = 17
    · rw [if_pos c17]
      obtain ⟨r, h1, h2, e1, e2, hI2⟩ := o_bear (xs (Int32.toNatClampNeg (nI i + 1))) (xs (Int32.toNatClampNeg (nI i + 2))) h hI
      simp only [b1, b2, ckk_t, ltt_s, e1, e2, bd2_s, if_true]
      exact go h2 hI2
    rw [if_neg c17]
    by_cases c18 : w = 18
    · rw [if_pos c18]
      obtain ⟨r, h1, h2, e1, e2, hI2⟩ := o_when (xs (Int32.toNatClampNeg (nI i + 1))) (xs (Int32.toNatClampNeg (nI i + 2))) h hI
      simp only [b1, b2, ckk_t, ltt_s, e1, e2, bd2_s, if_true]
      exact go h2 hI2
    rw [if_neg c18]
    by_cases c19 : w = 19
    · rw [if_pos c19]
      obtain ⟨r, h1, h2, e1, e2, hI2⟩ := o_spare (xs (Int32.toNatClampNeg (nI i + 1))) h hI
      simp only [b1, ckk_t, ltt_s, e1, e2, bd2_s, if_true]
      exact go h2 hI2
    rw [if_neg c19]
    by_cases c20 : w = 20
    · rw [if_pos c20]
      obtain ⟨r, h1, h2, e1, e2, hI2⟩ := o_seen (xs (Int32.toNatClampNeg (nI i + 1))) (xs (Int32.toNatClampNeg (nI i + 2))) (xs (Int32.toNatClampNeg (nI i + 3))) h hI
      simp only [b1, b2, b3, ckk_t, ltt_s, e1, e2, bd2_s, if_true]
      exact go h2 hI2
    rw [if_neg c20]
    by_cases c21 : w = 21
    · rw [if_pos c21]
      obtain ⟨r, h1, h2, e1, e2, hI2⟩ := o_forget  h hI
      simp only [ckk_t, ltt_s, e1, e2, bd2_s, if_true]
      exact go h2 hI2
    rw [if_neg c21]
    by_cases c22 : w = 22
    · rw [if_pos c22]
      obtain ⟨r, h1, h2, e1, e2, hI2⟩ := o_never  h hI
      simp only [ckk_t, ltt_s, e1, e2, bd2_s, if_true]
      exact go h2 hI2
    rw [if_neg c22]
    by_cases c23 : w = 23
    · rw [if_pos c23]
      obtain ⟨r, h1, h2, e1, e2, hI2⟩ := o_was (xs (Int32.toNatClampNeg (nI i + 1))) (xs (Int32.toNatClampNeg (nI i + 2))) h hI
      simp only [b1, b2, ckk_t, ltt_s, e1, e2, bd2_s, if_true]
      exact go h2 hI2
    rw [if_neg c23]
    by_cases c24 : w = 24
    · rw [if_pos c24]
      obtain ⟨r, h1, h2, e1, e2, hI2⟩ := o_ask (xs (Int32.toNatClampNeg (nI i + 1))) h hI
      simp only [b1, ckk_t, ltt_s, e1, e2, bd2_s, if_true]
      exact go h2 hI2
    rw [if_neg c24]
    by_cases c25 : w = 25
    · rw [if_pos c25]
      obtain ⟨r, h1, h2, e1, e2, hI2⟩ := o_chance (xs (Int32.toNatClampNeg (nI i + 1))) (xs (Int32.toNatClampNeg (nI i + 2))) (xs (Int32.toNatClampNeg (nI i + 3))) h hI
      simp only [b1, b2, b3, ckk_t, ltt_s, e1, e2, bd2_s, lgc_rfl, if_true]
      exact go h2 hI2
    rw [if_neg c25]
    by_cases c26 : w = 26
    · rw [if_pos c26]
      obtain ⟨r, h1, h2, e1, e2, hI2⟩ := o_years (xs (Int32.toNatClampNeg (nI i + 1))) (xs (Int32.toNatClampNeg (nI i + 2))) (xs (Int32.toNatClampNeg (nI i + 3))) h hI
      simp only [b1, b2, b3, ckk_t, ltt_s, e1, e2, bd2_s, if_true]
      exact go h2 hI2
    rw [if_neg c26]
    by_cases c27 : w = 27
    · rw [if_pos c27]
      obtain ⟨r, h1, h2, e1, e2, hI2⟩ := o_sheet (xs (Int32.toNatClampNeg (nI i + 1))) (xs (Int32.toNatClampNeg (nI i + 2))) (xs (Int32.toNatClampNeg (nI i + 3))) h hI
      simp only [b1, b2, b3, ckk_t, ltt_s, e1, e2, bd2_s, if_true]
      exact go h2 hI2
    rw [if_neg c27]
    by_cases c28 : w = 28
    · rw [if_pos c28]
      obtain ⟨r, h1, h2, e1, e2, hI2⟩ := o_lose (xs (Int32.toNatClampNeg (nI i + 1))) h hI
      simp only [b1, ckk_t, ltt_s, e1, e2, bd2_s, if_true]
      exact go h2 hI2
    rw [if_neg c28]
    by_cases c29 : w = 29
    · rw [if_pos c29]
      obtain ⟨r, h1, h2, e1, e2, hI2⟩ := o_put (xs (Int32.toNatClampNeg (nI i + 1))) (xs (Int32.toNatClampNeg (nI i + 2))) (xs (Int32.toNatClampNeg (nI i + 3))) (xs (Int32.toNatClampNeg (nI i + 4))) h hI
      simp only [b1, b2, b3, b4, ckk_t, ltt_s, e1, e2, bd2_s, if_true]
      exact go h2 hI2
    rw [if_neg c29]
    by_cases c30 : w = 30
    · rw [if_pos c30]
      obtain ⟨r, h1, h2, e1, e2, hI2⟩ := o_get (xs (Int32.toNatClampNeg (nI i + 1))) (xs (Int32.toNatClampNeg (nI i + 2))) (xs (Int32.toNatClampNeg (nI i + 3))) h hI
      simp only [b1, b2, b3, ckk_t, ltt_s, e1, e2, bd2_s, if_true]
      exact go h2 hI2
    rw [if_neg c30]
    by_cases c31 : w = 31
    · rw [if_pos c31]
      obtain ⟨r, h1, h2, e1, e2, hI2⟩ := o_copy (xs (Int32.toNatClampNeg (nI i + 1))) (xs (Int32.toNatClampNeg (nI i + 2))) (xs (Int32.toNatClampNeg (nI i + 3))) (xs (Int32.toNatClampNeg (nI i + 4))) (xs (Int32.toNatClampNeg (nI i + 5))) h hI
      simp only [b1, b2, b3, b4, b5, ckk_t, ltt_s, e1, e2, bd2_s, if_true]
      exact go h2 hI2
    rw [if_neg c31]
    by_cases c32 : w = 32
    · rw [if_pos c32]
      obtain ⟨r, h1, h2, e1, e2, hI2⟩ := o_write (xs (Int32.toNatClampNeg (nI i + 1))) (xs (Int32.toNatClampNeg (nI i + 2))) h hI
      simp only [b1, b2, ckk_t, ltt_s, e1, e2, bd2_s, if_true]
      exact go h2 hI2
    rw [if_neg c32]
    by_cases c33 : w = 33
    · rw [if_pos c33]
      obtain ⟨r, h1, h2, e1, e2, hI2⟩ := o_count (xs (Int32.toNatClampNeg (nI i + 1))) h hI
      simp only [b1, ckk_t, ltt_s, e1, e2, bd2_s, if_true]
      exact go h2 hI2
    rw [if_neg c33]
    by_cases c34 : w = 34
    · rw [if_pos c34]
      obtain ⟨r, h1, h2, e1, e2, hI2⟩ := o_digest  h hI
      simp only [ckk_t, ltt_s, e1, e2, bd2_s, lgc_rfl, if_true]
      exact go h2 hI2
    rw [if_neg c34]
    exact go h hI
theorem law_of {Inv : HP → Prop} (ho : ops_ok Inv) (hz : Inv hz_) (L : Nat) (xs : Nat → Int32) (hL : L ≤ 384) : ∃ h' : HP, f_law L xs hz_ = some (1, h') := law_loop ho L xs hL 400 0 hz_ hz (Nat.zero_le _) (by omega)
