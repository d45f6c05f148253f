/-! the days: what a march of the class leaves behind -/
def wM (D : DT) (d k : Nat) (s : WS) : WS := wS (dsd D) (dsk D) (tbit (dlo D)) d k (dns D) (wB (dbd D) (dbo D) (dbw D) d k (dnb D) s)
def wD (D : DT) (so sf d k : Nat) (s : WS) : WS := wl d (ww d so sf (wM D d k s))
def w0_ (sf : Nat) : WS := (0, sf, 0, 0, 0, 0, 0, 24)
def wR (D : DT) (so sf k : Nat) : Nat → WS
  | 0 => w0_ sf
  | d + 1 => we (wD D so sf d k (wR D so sf k d))
def rmo : WS → Nat
  | (ld, st, li, _, _, _, _, _) => if li = 0 then st - ld else 0
theorem wok_0 {sf : Nat} : wok sf (w0_ sf) := ⟨Nat.zero_le _, Nat.le_refl _, by omega, fun h => absurd rfl h, by omega⟩
theorem wok_wM {D : DT} {sf d k : Nat} {s : WS} (hd : d < 24) (h : wok sf s) : wok sf (wM D d k s) := wok_wS hd (wok_wB hd h _) _
theorem wok_wD {D : DT} {so sf d k : Nat} {s : WS} (hd : d < 24) (h : wok sf s) : wok sf (wD D so sf d k s) := wok_wl (wok_ww hd (wok_wM hd h))
theorem wok_wR {D : DT} {so sf k : Nat} : ∀ d, d ≤ 24 → wok sf (wR D so sf k d)
  | 0, _ => wok_0
  | d + 1, h => wok_we (wok_wD (by omega) (wok_wR d (by omega)))
theorem CR.next {d sf : Nat} {h : HP} {s : WS} (ho : wok sf s) (hc : CR d sf h s) : CR0 (d + 1) sf h (we s) := by
  obtain ⟨ld, st, li, fe, br, bk, sp, ff⟩ := s
  obtain ⟨c2, c3, c4, c10, c6, c7, c11, c8, c12⟩ := hc
  refine ⟨c2, c3, c4, ?_, c6, c7, c11, c8, c12⟩
  rcases c10 with ⟨g1, g2⟩ | ⟨g1, g0, f, g2, g3⟩
  · exact Or.inl ⟨g1, by omega⟩
  · exact Or.inr ⟨g1, f, g2, by omega⟩
theorem CR.frame {d sf : Nat} {h h' : HP} {s : WS} (e : h'.1 53 = h.1 53) (hc : CR d sf h s) : CR d sf h' s := by
  obtain ⟨ld, st, li, fe, br, bk, sp, ff⟩ := s
  unfold CR at hc ⊢
  rw [e]
  exact hc
theorem KR.frame {h h' : HP} {d rm : Nat} {s : WS} (e : ∀ j, j < 8 → h'.1 52 (d * 8 + j) = h.1 52 (d * 8 + j)) (hc : KR h d rm s) : KR h' d rm s := by
  obtain ⟨ld, st, li, fe, br, bk, sp, ff⟩ := s
  obtain ⟨k0, k1, k2, k3, k4, k5, k6, k7⟩ := hc
  exact ⟨(e 0 (by omega)).trans k0, (e 1 (by omega)).trans k1, (e 2 (by omega)).trans k2, (e 3 (by omega)).trans k3, (e 4 (by omega)).trans k4, (e 5 (by omega)).trans k5, (e 6 (by omega)).trans k6, (e 7 (by omega)).trans k7⟩
/-- nothing comes on a day that isn't busy -/
def busyOk (D : DT) (k : Nat) (x : Int32) : Prop := ∀ d, d < 24 → bt x d = false → (∀ j, j < dnb D → ¬ (dbd D j = nI d ∧ dbo D j = nI k)) ∧ ∀ j, j < dns D → ¬ (dsd D j = nI d ∧ dsk D j = nI k)
theorem c_mid {D : DT} {d k sf : Nat} {x : Int32} {h : HP} {s : WS} (hd : d < 24) (hsf : sf ≤ 36) (hx : busyOk D k x) (ho : wok sf s) (hc : CD D h) (hr : CR d sf h s) : ∃ w v1 v2 h1 h2, (if (x >>> (nI d &&& 31)) &&& 1 = 0 then some (0 : Int32) else some 1) = some w ∧ lp_Cv_march_68 w (nI d) x (nI k) 400 0 h = some (v1, h1) ∧ lp_Cv_march_147 w (nI d) x (nI k) 400 0 h1 = some (v2, h2) ∧ CR d sf h2 (wM D d k s) ∧ KP h h2 := by
  have b2 := hc.2.2.2.1
  have b3 := hc.2.2.2.2.1
  by_cases hb : bt x d = false
  · obtain ⟨g1, g2⟩ := hx d hd hb
    refine ⟨0, 0, 0, h, h, if_pos ((bit0 x (by omega)).mpr hb), ?_, ?_, ?_, KP.rf⟩
    · rw [lp_Cv_march_68]; exact if_pos rfl
    · rw [lp_Cv_march_147]; exact if_pos rfl
    · unfold wM
      rw [wB_id _ g1, wS_id _ g2]
      exact hr
  · obtain ⟨h1, e1, r1, k1⟩ := l_65 (k := k) (v2 := x) hd hsf ho 400 0 h hc (Nat.zero_le _) (by omega) hr
    obtain ⟨h2, e2, r2, k2⟩ := l_144 (k := k) (v2 := x) hd hsf (wok_wB hd ho _) 400 0 h1 (hc.keep k1.fr) (Nat.zero_le _) (by omega) r1
    exact ⟨1, _, _, h1, h2, if_neg (fun z => hb ((bit0 x (by omega)).mp z)), e1, e2, r2, k1.tr k2⟩
set_option maxHeartbeats 4000000 in
theorem l_33 {D : DT} {so sf k : Nat} {x : Int32} (hsf : sf ≤ 36) (hso : so ≤ 2) (hx : busyOk D k x) : ∀ (fu d : Nat) (h : HP), CD D h → d ≤ 24 → 24 < d + fu → h.1 53 1 = nI so → CR0 d sf h (wR D so sf k d) → (∀ j, j < d → KR h j (rmo (wM D j k (wR D so sf k j))) (wD D so sf j k (wR D so sf k j))) → ∃ v h', lp_Cv_march_36 x (nI k) fu (nI d) h = some (v, h') ∧ CR0 24 sf h' (wR D so sf k 24) ∧ (∀ j, j < 24 → KR h' j (rmo (wM D j k (wR D so sf k j))) (wD D so sf j k (wR D so sf k j))) ∧ FR [52, 53] h h' := by
  intro fu
  induction fu with
  | zero => intro d h _ h1 h2; omega
  | succ fu ih =>
    intro d h hc hd hf hs hr hk
    have q : (24 ≤ nI d) ↔ 24 ≤ d := nI_leI (a := 24) (by omega) (by omega)
    rw [lp_Cv_march_36]
    simp only [q]
    by_cases he : 24 ≤ d
    · have e : d = 24 := by omega
      subst e
      simp only [Nat.le_refl, if_true]
      exact ⟨_, h, rfl, hr, hk, FR.rf⟩
    · simp only [he, if_false]
      have hd24 : d < 24 := by omega
      have ho := wok_wR (D := D) (so := so) (sf := sf) (k := k) d hd
      obtain ⟨g1, e1, r1, k1⟩ := c_rise hd24 ho hr
      have c1 := hc.keep k1.fr
      obtain ⟨w, v1, v2, g2, g3, e2, e3, e4, r2, k2⟩ := c_mid (x := x) hd24 hsf hx ho c1 r1
      have om := wok_wM (D := D) (k := k) hd24 ho
      have hs3 : g3.1 53 1 = nI so := by rw [k2.1, k1.1]; exact hs
      obtain ⟨mld, mst, mli, mfe, mbr, mbk, msp, mff, hm⟩ : ∃ a b c d' e f g i, wM D d k (wR D so sf k d) = (a, b, c, d', e, f, g, i) := ⟨_, _, _, _, _, _, _, _, rfl⟩
      rw [hm] at r2 om
      obtain ⟨g4, e5, r3, k3, hrm⟩ := c_room om.1 r2
      have hs4 : g4.1 53 1 = nI so := by rw [k3.1]; exact hs3
      obtain ⟨g5, g6, e6, e7, r4, k4⟩ := c_wear hd24 hsf hso om hs4 r3
      obtain ⟨g7, e8, r5, k5⟩ := c_well hd24 r4
      have hrm7 : g7.1 53 9 = nI (rmo (wM D d k (wR D so sf k d))) := by rw [k5.2.2.1, k4.2.2.1, hrm, hm]; rfl
      obtain ⟨g8, e9, kr, ko, kf⟩ := c_keep hd24 hrm7 r5
      have hwd : wl d (ww d so sf (mld, mst, mli, mfe, mbr, mbk, msp, mff)) = wD D so sf d k (wR D so sf k d) := by unfold wD; rw [hm]
      rw [hwd] at kr r5
      have f8 : FR [52, 53] h g8 := ((k1.fr.tr k2.fr).tr (k3.2.mono (by decide))).tr (((k4.fr.tr k5.fr)).tr (kf.mono (by decide)))
      have f7 : FR [53] h g7 := ((k1.2.2.2.tr k2.2.2.2).tr k3.2).tr (k4.2.2.2.tr k5.2.2.2)
      simp only [e1, e2, e3, e4, e5, e6, e7, e8, e9, bd1_s, bd2_s, ltt_s, nI_1]
      have hs8 : g8.1 53 1 = nI so := by rw [kf.2 53 (by decide), k5.1, k4.1]; exact hs4
      obtain ⟨v, h', e10, r6, kk, ff⟩ := ih (d + 1) g8 (hc.keep f8) (by omega) (by omega) hs8 ((r5.frame (kf.2 53 (by decide))).next (wok_wD hd24 ho)) (fun j hj => by
        by_cases hjd : j = d
        · subst hjd
          exact kr
        · refine (hk j (by omega)).frame (fun i hi => ?_)
          rw [ko (j * 8 + i) (Or.inl (by omega)), f7.2 52 (by decide)])
      exact ⟨v, h', e10, r6, kk, f8.tr ff⟩
theorem c_start {so sf : Nat} {h : HP} : ∃ h', f_Wa_start (nI so) (nI sf) h = some h' ∧ CR0 0 sf h' (w0_ sf) ∧ h'.1 53 1 = nI so ∧ FR [53] h h' := by
  unfold f_Wa_start
  simp only [ltt_s]
  refine ⟨_, rfl, ?_, ?_, ?_⟩
  · simp [CR0, w0_, rd_sI, nI_0, ffI]
  · simp [rd_sI]
  · repeat' (first | exact FR.rf | refine FR.s ?_ (by decide))
/-- behind a march of camel k: all its days, how often it broke, when first -/
def Mch (D : DT) (k : Nat) (h : HP) : Prop := CR0 24 (4 * dfg D k) h (wR D (dso D k) (4 * dfg D k) k 24) ∧ ∀ j, j < 24 → KR h j (rmo (wM D j k (wR D (dso D k) (4 * dfg D k) k j))) (wD D (dso D k) (4 * dfg D k) j k (wR D (dso D k) (4 * dfg D k) k j))
theorem c_march {D : DT} {k : Nat} {h : HP} (hk : k < dnc D) (hc : CD D h) : ∃ h', f_Cv_march (nI k) h = some h' ∧ Mch D k h' ∧ FR [52, 53] h h' := by
  have b1 := hc.2.2.1
  obtain ⟨g1, g2, g3, g4, g5⟩ := hc.2.2.2.2.2.2.2.2.2.2 k hk
  obtain ⟨x, e1, hx⟩ := c_busy (k := k) hc
  obtain ⟨h1, e2, r1, s1, f1⟩ := c_start (so := dso D k) (sf := 4 * dfg D k) (h := h)
  have f1' : FR [52, 53] h h1 := f1.mono (by decide)
  obtain ⟨v, h', e3, r2, kk, f2⟩ := l_33 (D := D) (k := k) (so := dso D k) (sf := 4 * dfg D k) (by omega) g3 hx 400 0 h1 (hc.keep f1') (Nat.zero_le _) (by omega) s1 r1 (fun j hj => absurd hj (Nat.not_lt_zero _))
  refine ⟨h', ?_, ⟨r2, kk⟩, f1'.tr f2⟩
  have hb : inb (nI k) 8 = true := inb_lit (by omega) (by omega)
  have e4 : (4 : Int32) * nI (dfg D k) = nI (4 * dfg D k) := pk_mul 4 (dfg D k)
  unfold f_Cv_march f_CS_strengthOf
  rw [nI_0] at e3
  simp only [e1, bd2_s, hb, ckk_t, ltt_s, rA_nI (show k < 2 ^ 31 by omega), g1, g2, e4, e2, bd1_s, e3]
