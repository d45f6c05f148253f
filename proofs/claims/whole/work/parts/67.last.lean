/-! last -/
def it (d : Nat) : Nat → WS → WS
  | 0, s => s
  | j + 1, s => wsw d (it d j s)
theorem wsw_room {d : Nat} {s : WS} (h1 : a_li s = 0) (h2 : a_ld s < a_st s) : a_ld (wsw d s) = a_ld s + 1 ∧ a_st (wsw d s) = a_st s ∧ a_li (wsw d s) = 0 := by
  obtain ⟨ld, st, li, fe, br, bk, sp, ff⟩ := s
  rw [show wsw d (ld, st, li, fe, br, bk, sp, ff) = (if ld + 1 = st then (ld + 1, st, li, fe + (ld + 1), br, bk, sp, ff) else wb d (ld + 1, st, li, fe, br, bk, sp, ff)) from if_pos h1]
  have h3 : ld < st := h2
  by_cases z : ld + 1 = st
  · rw [if_pos z]
    exact ⟨rfl, rfl, h1⟩
  · rw [if_neg z, wb_f (by omega)]
    exact ⟨rfl, rfl, h1⟩
theorem wsw_full {d : Nat} {s : WS} (h1 : a_li s = 0) (h2 : a_ld s = a_st s) : a_li (wsw d s) = 3 := by
  obtain ⟨ld, st, li, fe, br, bk, sp, ff⟩ := s
  rw [show wsw d (ld, st, li, fe, br, bk, sp, ff) = (if ld + 1 = st then (ld + 1, st, li, fe + (ld + 1), br, bk, sp, ff) else wb d (ld + 1, st, li, fe, br, bk, sp, ff)) from if_pos h1]
  have h3 : ld = st := h2
  rw [if_neg (by omega), wb_t (by omega)]
theorem it_st {d : Nat} {m : WS} (h1 : a_li m = 0) (h2 : a_ld m ≤ a_st m) : ∀ j, (j ≤ a_st m - a_ld m → a_li (it d j m) = 0 ∧ a_ld (it d j m) = a_ld m + j ∧ a_st (it d j m) = a_st m) ∧ (a_st m - a_ld m < j → ¬ a_li (it d j m) = 0)
  | 0 => ⟨fun _ => ⟨h1, rfl, rfl⟩, fun h => by omega⟩
  | j + 1 => by
    obtain ⟨i1, i2⟩ := it_st (d := d) h1 h2 j
    refine ⟨fun h => ?_, fun h => ?_⟩
    · obtain ⟨e1, e2, e3⟩ := i1 (by omega)
      obtain ⟨f1, f2, f3⟩ := wsw_room (d := d) e1 (by omega)
      exact ⟨f3, by show a_ld (wsw d (it d j m)) = _; omega, by show a_st (wsw d (it d j m)) = _; omega⟩
    · show ¬ a_li (wsw d (it d j m)) = 0
      by_cases z : j ≤ a_st m - a_ld m
      · obtain ⟨e1, e2, e3⟩ := i1 z
        rw [wsw_full e1 (by omega)]
        decide
      · rw [wsw_li (i2 (by omega))]
        exact i2 (by omega)
theorem rmo_eq (m : WS) : rmo m = if a_li m = 0 then a_st m - a_ld m else 0 := by
  obtain ⟨ld, st, li, fe, br, bk, sp, ff⟩ := m
  rfl
theorem it_li {d : Nat} {m : WS} (h1 : ¬ a_li m = 0) : ∀ j, it d j m = m
  | 0 => rfl
  | j + 1 => by
    show wsw d (it d j m) = m
    rw [it_li h1 j, wsw_li h1]
theorem it_lq {d : Nat} {m : WS} (h2 : a_ld m ≤ a_st m) (j : Nat) : lq (it d j m) = if j + 1 = rmo m then 1 else 0 := by
  rw [rmo_eq]
  unfold lq
  by_cases h1 : a_li m = 0
  · rw [if_pos h1]
    obtain ⟨i1, i2⟩ := it_st (d := d) h1 h2 j
    by_cases z : j ≤ a_st m - a_ld m
    · obtain ⟨e1, e2, e3⟩ := i1 z
      by_cases y : j + 1 = a_st m - a_ld m
      · rw [if_pos y, if_pos ⟨e1, by omega⟩]
      · rw [if_neg y, if_neg (fun q => y (by have := q.2; omega))]
    · rw [if_neg (fun q => i2 (by omega) q.1), if_neg (by omega)]
  · rw [it_li h1, if_neg (fun q => h1 q.1), if_neg h1, if_neg (by omega)]
def Dx (D : DT) (v d k : Nat) : DT := (dnc D, dnb D, dns D + v, dso D, dfg D, dbd D, dbo D, dbw D, fun i => if i < dns D then dsd D i else nI d, fun i => if i < dns D then dsk D i else nI k, dlo D)
theorem wS_cong {sd sd' so so' : Nat → Int32} {out out' : Nat → Bool} {d k : Nat} {s : WS} : ∀ n, (∀ i, i < n → ((sd i = nI d ∧ so i = nI k ∧ out i = false) ↔ (sd' i = nI d ∧ so' i = nI k ∧ out' i = false))) → wS sd so out d k n s = wS sd' so' out' d k n s
  | 0, _ => rfl
  | n + 1, h => by
    unfold wS
    rw [wS_cong n (fun i hi => h i (by omega))]
    by_cases z : sd n = nI d ∧ so n = nI k ∧ out n = false
    · rw [if_pos z, if_pos ((h n (by omega)).mp z)]
    · rw [if_neg z, if_neg (fun y => z ((h n (by omega)).mpr y))]
theorem wB_cong {bd bd' bo bo' : Nat → Int32} {bw bw' : Nat → Nat} {d k : Nat} {s : WS} : ∀ n, (∀ i, i < n → bw i = bw' i ∧ ((bd i = nI d ∧ bo i = nI k) ↔ (bd' i = nI d ∧ bo' i = nI k))) → wB bd bo bw d k n s = wB bd' bo' bw' d k n s
  | 0, _ => rfl
  | n + 1, h => by
    unfold wB
    rw [wB_cong n (fun i hi => h i (by omega)), (h n (by omega)).1]
    by_cases z : bd n = nI d ∧ bo n = nI k
    · rw [if_pos z, if_pos ((h n (by omega)).2.mp z)]
    · rw [if_neg z, if_neg (fun y => z ((h n (by omega)).2.mpr y))]
/-- a camel's way depends on what comes on it alone -/
theorem WR_cong {D D' : DT} {k : Nat} (hs : dso D' k = dso D k) (hf : dfg D' k = dfg D k) : ∀ d, (∀ j s, j < d → wM D' j k s = wM D j k s) → WR D' k d = WR D k d
  | 0, _ => by
    show w0_ (4 * dfg D' k) = w0_ (4 * dfg D k)
    rw [hf]
  | d + 1, h => by
    have ih := WR_cong hs hf d (fun j s hj => h j s (by omega))
    show we (wl d (ww d (dso D' k) (4 * dfg D' k) (wM D' d k (WR D' k d)))) = we (wl d (ww d (dso D k) (4 * dfg D k) (wM D d k (WR D k d))))
    rw [ih, h d _ (by omega), hs, hf]
theorem WE_cong {D D' : DT} {k d : Nat} (hs : dso D' k = dso D k) (hf : dfg D' k = dfg D k) (h : ∀ j s, j ≤ d → wM D' j k s = wM D j k s) : WE D' d k = WE D d k := by
  show wl d (ww d (dso D' k) (4 * dfg D' k) (wM D' d k (WR D' k d))) = wl d (ww d (dso D k) (4 * dfg D k) (wM D d k (WR D k d)))
  rw [WR_cong hs hf d (fun j s hj => h j s (by omega)), h d _ (Nat.le_refl _), hs, hf]
theorem wS_app {sd so : Nat → Int32} {out : Nat → Bool} {d k n : Nat} {s : WS} (h : ∀ i, n ≤ i → sd i = nI d ∧ so i = nI k ∧ out i = false) : ∀ v, wS sd so out d k (n + v) s = it d v (wS sd so out d k n s)
  | 0 => rfl
  | v + 1 => by
    show (if sd (n + v) = nI d ∧ so (n + v) = nI k ∧ out (n + v) = false then wsw d (wS sd so out d k (n + v) s) else wS sd so out d k (n + v) s) = wsw d (it d v (wS sd so out d k n s))
    rw [if_pos (h (n + v) (by omega)), wS_app h v]
theorem wS_skip {sd so : Nat → Int32} {out : Nat → Bool} {d k n : Nat} {s : WS} (h : ∀ i, n ≤ i → ¬ sd i = nI d) : ∀ v, wS sd so out d k (n + v) s = wS sd so out d k n s
  | 0 => rfl
  | v + 1 => by
    show (if sd (n + v) = nI d ∧ so (n + v) = nI k ∧ out (n + v) = false then wsw d (wS sd so out d k (n + v) s) else wS sd so out d k (n + v) s) = _
    rw [if_neg (fun z => h (n + v) (by omega) z.1), wS_skip h v]
theorem Dx_S {D : DT} {v d k d' k' : Nat} {s : WS} : wS (dsd (Dx D v d k)) (dsk (Dx D v d k)) (tbit (dlo (Dx D v d k))) d' k' (dns D) s = wS (dsd D) (dsk D) (tbit (dlo D)) d' k' (dns D) s := by
  refine wS_cong _ (fun i hi => ?_)
  have e1 : dsd (Dx D v d k) i = dsd D i := if_pos hi
  have e2 : dsk (Dx D v d k) i = dsk D i := if_pos hi
  rw [e1, e2]
  exact Iff.rfl
theorem Dx_M {D : DT} {v d k d' k' : Nat} {s : WS} (hd : d < 24) (hd' : d' < 24) (hne : d' ≠ d) : wM (Dx D v d k) d' k' s = wM D d' k' s := by
  show wS (dsd (Dx D v d k)) (dsk (Dx D v d k)) (tbit (dlo (Dx D v d k))) d' k' (dns D + v) (wB (dbd D) (dbo D) (dbw D) d' k' (dnb D) s) = _
  rw [wS_skip (fun i hi => by
    have e1 : dsd (Dx D v d k) i = nI d := if_neg (by omega)
    rw [e1]
    exact nI_ne (by omega) (by omega) (Ne.symm hne)) v, Dx_S]
  rfl
theorem tbit0 (i : Nat) : tbit 0 i = false := by
  unfold tbit
  have : ∀ y : Int32, (0 : Int32) >>> y &&& 1 = 0 := fun y => by
    have h : (0 : Int32) >>> y = 0 := by simp
    rw [h]
    decide
  rw [this]
  decide
theorem tbit0' {x : Int32} {i : Nat} (h : x = 0) : tbit x i = false := by rw [h]; exact tbit0 i
theorem Dx_MD {D : DT} {v d k : Nat} {h : HP} (hm : MD (Dx D v d k) h) (hk : k < 8) (hv : dns D + v < 17) : MD (Dx D (v + 1) d k) (sI (sI (sI h 24 (dns D + v) (nI d)) 23 (dns D + v) (nI k)) 34 12 (nI (dns D + (v + 1)))) := by
  obtain ⟨m1, m2, m3, m4, m5, m6, m7, m8, m9, m10⟩ := hm
  have g : ∀ a i, a ≠ 24 → a ≠ 23 → a ≠ 34 → (sI (sI (sI h 24 (dns D + v) (nI d)) 23 (dns D + v) (nI k)) 34 12 (nI (dns D + (v + 1)))).1 a i = h.1 a i := fun a i h1 h2 h3 => by simp [rd_sI, h1, h2, h3]
  have g34 : ∀ i, i ≠ 12 → (sI (sI (sI h 24 (dns D + v) (nI d)) 23 (dns D + v) (nI k)) 34 12 (nI (dns D + (v + 1)))).1 34 i = h.1 34 i := fun i h1 => by simp [rd_sI, h1]
  refine ⟨(g34 2 (by decide)).trans m1, (g34 5 (by decide)).trans m2, m3, m4, by show dns D + (v + 1) ≤ 17; omega, by simp [rd_sI]; rfl, (g34 15 (by decide)).trans m7, fun i hi => by rw [g 27 i (by decide) (by decide) (by decide), g 29 i (by decide) (by decide) (by decide), g 28 i (by decide) (by decide) (by decide)]; exact m8 i hi, fun i hi => ?_, fun i hi => by rw [g 31 i (by decide) (by decide) (by decide), g 30 i (by decide) (by decide) (by decide)]; exact m10 i hi⟩
  by_cases e : i = dns D + v
  · have e1 : dsd (Dx D (v + 1) d k) i = nI d := if_neg (by omega)
    have e2 : dsk (Dx D (v + 1) d k) i = nI k := if_neg (by omega)
    rw [e1, e2, e]
    exact ⟨by simp [rd_sI], by simp [rd_sI], k, hk, rfl⟩
  · have hi' : i < dns D + (v + 1) := hi
    obtain ⟨g1, g2, g3⟩ := m9 i (by show i < dns D + v; omega)
    refine ⟨?_, ?_, g3⟩
    · rw [show dsd (Dx D (v + 1) d k) i = dsd (Dx D v d k) i from rfl, ← g1]
      simp [rd_sI, e]
    · rw [show dsk (Dx D (v + 1) d k) i = dsk (Dx D v d k) i from rfl, ← g2]
      simp [rd_sI, e]
theorem Dx_0 {D : DT} {d k : Nat} {h : HP} (hm : MD D h) : MD (Dx D 0 d k) h := by
  obtain ⟨m1, m2, m3, m4, m5, m6, m7, m8, m9, m10⟩ := hm
  refine ⟨m1, m2, m3, m4, m5, m6, m7, m8, fun i hi => ?_, m10⟩
  have e1 : dsd (Dx D 0 d k) i = dsd D i := if_pos hi
  have e2 : dsk (Dx D 0 d k) i = dsk D i := if_pos hi
  rw [e1, e2]
  exact m9 i hi
def laR (rm : Nat) : Int32 := if 1 ≤ rm ∧ rm ≤ 9 then nI rm else -1
theorem l_last {D : DT} {d k : Nat} (hd : d < 24) (hk : k < dnc D) (hlo : dlo D = 0) (hns : dns D ≤ 8) : ∀ (fu j : Nat) (h : HP), MD (Dx D j d k) h → h.1 34 9 = nI (dns D) → j ≤ 9 → 9 < j + fu → (∀ u, u < j → u + 1 ≠ rmo (wM D d k (WR D k d))) → ∃ h', lp_Mo_lastOf_6 (nI k) (nI d) fu (nI (j + 1)) h = some (laR (rmo (wM D d k (WR D k d))), h') ∧ MC D h' ∧ SF h h' := by
  intro fu
  induction fu with
  | zero => intro j h _ _ h1 h2; omega
  | succ fu ih =>
    intro j h hm h9 hj hf hu
    have b1 : dnc D ≤ 8 := hm.2.2.1
    have q : (10 ≤ nI (j + 1)) ↔ 10 ≤ j + 1 := nI_leI (a := 10) (by omega) (by omega)
    rw [lp_Mo_lastOf_6]
    simp only [q]
    by_cases he : 10 ≤ j + 1
    · rw [if_pos he]
      refine ⟨h, ?_, hm.mc, SF.rf⟩
      unfold laR
      rw [if_neg (fun z => hu (rmo (wM D d k (WR D k d)) - 1) (by omega) (by omega))]
    · rw [if_neg he]
      have e1 : nI (dns D + (j + 1)) - 1 = nI (dns D + j) := nI_pred (dns D + j)
      have hb : inb (nI (dns D + j)) 17 = true := inb_lit (by omega) (by omega)
      have hb2 : inb (nI d) 24 = true := inb_lit (by omega) (by omega)
      have hl : dns D + j < 2 ^ 31 := by omega
      have t1 : (sI h 24 (dns D + j) (nI d)).1 34 9 = nI (dns D) := by simp [rd_sI, h9]
      have t2 : (sI (sI h 24 (dns D + j) (nI d)) 23 (dns D + j) (nI k)).1 34 9 = nI (dns D) := by simp [rd_sI, h9]
      have e2 : nI (dns D) + nI (j + 1) = nI (dns D + (j + 1)) := nI_add _ _
      simp only [ltt_s, rI, h9, e2, e1, hb, ckk_t, wA_nI hl, t1, t2]
      have hm1 := Dx_MD hm (show k < 8 by omega) (by omega)
      obtain ⟨h2, e3, r3, k3⟩ := m_runs hm1
      have s2 : SF h h2 := by
        refine SF.tr ?_ k3.sf
        refine SF.of (cs := [23, 24, 34]) (by repeat' (first | exact FR.rf | refine FR.s ?_ (by decide))) (by decide) ?_ ?_ ?_ <;> simp [rd_sI]
      obtain ⟨la, l01⟩ := r3.2.2 d hd
      have key : h2.1 10 d = 1 ↔ j + 1 = rmo (wM D d k (WR D k d)) := by
        have h4 := la (dns D + j) k rfl hk (if_neg (by omega)) (if_neg (by omega)) (tbit0' hlo)
        have hap : ∀ i, dns D ≤ i → dsd (Dx D (j + 1) d k) i = nI d ∧ dsk (Dx D (j + 1) d k) i = nI k ∧ tbit (dlo (Dx D (j + 1) d k)) i = false := fun i hi => ⟨if_neg (by omega), if_neg (by omega), tbit0' hlo⟩
        have e4 : wS (dsd (Dx D (j + 1) d k)) (dsk (Dx D (j + 1) d k)) (tbit (dlo (Dx D (j + 1) d k))) d k (dns D + j) (wB (dbd D) (dbo D) (dbw D) d k (dnb D) (WR (Dx D (j + 1) d k) k d)) = it d j (wM D d k (WR D k d)) := by
          rw [WR_cong (D := D) (D' := Dx D (j + 1) d k) (k := k) rfl rfl d (fun i s hi => Dx_M (D := D) (v := j + 1) (d := d) (k := k) hd (by omega) (by omega)), wS_app hap j, Dx_S]
          rfl
        have h5 : (if h2.1 10 d = 1 then (1 : Int32) else 0) = lq (it d j (wM D d k (WR D k d))) := by
          rw [← e4]
          exact h4
        have ok : wok (4 * dfg D k) (wM D d k (WR D k d)) := wok_wM hd (wok_WR (by omega))
        rw [it_lq (by
          generalize wM D d k (WR D k d) = s at ok
          obtain ⟨ld, st, li, fe, br, bk, sp, ff⟩ := s
          exact ok.1) j] at h5
        by_cases z : j + 1 = rmo (wM D d k (WR D k d))
        · rw [if_pos z] at h5
          by_cases y : h2.1 10 d = 1
          · exact ⟨fun _ => z, fun _ => y⟩
          · rw [if_neg y] at h5
            exact absurd h5 (by decide)
        · rw [if_neg z] at h5
          by_cases y : h2.1 10 d = 1
          · rw [if_pos y] at h5
            exact absurd h5 (by decide)
          · exact ⟨fun x => absurd x y, fun x => absurd x z⟩
      rw [e3, bd1_s]
      simp only [hb2, ckk_t, rA_nI (show d < 2 ^ 31 by omega), key]
      by_cases z : j + 1 = rmo (wM D d k (WR D k d))
      · rw [if_pos z]
        refine ⟨h2, ?_, (hm1.keep k3).mc, s2⟩
        unfold laR
        rw [if_pos ⟨by omega, by omega⟩, z]
      · rw [if_neg z, nI_1]
        obtain ⟨h', p1, p2, p3⟩ := ih (j + 1) h2 (hm1.keep k3) (s2.2.2.1.trans h9) (by omega) (by omega) (fun u hu' => by
          by_cases e : u = j
          · subst e; exact z
          · exact hu u (by omega))
        exact ⟨h', p1, p2, s2.tr p3⟩
theorem qm_last {D : DT} {h0 : HP} {d k : Nat} (t : QS D h0) (hd : d < 24) (hk : k < dnc D) : QM D h0 (f_Mo_lastOf (nI k) (nI d)) (laR (rmo (wM D d k (WR D k d)))) := fun h hs => by
  have t' := t.sf hs
  obtain ⟨h1, e1, m1, s1⟩ := m_asTold t'
  have t1 := t'.sf s1
  obtain ⟨h2, e2, m2, s2⟩ := l_last hd hk t.2.2.2.2.2.2.2.1 t.1.2.2.2.2.1 400 0 h1 (Dx_0 m1) t1.2.2.2.1.2.2.1 (by omega) (by omega) (fun u hu => absurd hu (Nat.not_lt_zero _))
  refine ⟨h2, ?_, (hs.tr s1).tr s2, m2⟩
  unfold f_Mo_lastOf
  rw [e1, bd1_s]
  exact e2
theorem wok_st {sf : Nat} {s : WS} (h : wok sf s) : a_st s ≤ sf := by
  obtain ⟨ld, st, li, fe, br, bk, sp, ff⟩ := s
  exact h.2.1
theorem qc_last {D : DT} {h0 : HP} {d k : Nat} (t : QS D h0) (hd : d < 24) (hk : k < dnc D) : Q h0 (f_CS_last (nI k) (nI d)) (laR (rmo (wM D d k (WR D k d)))) := fun h hs => by
  have t' := t.sf hs
  have b1 := t'.1.2.2.1
  obtain ⟨h1, e1, m1, f1⟩ := c_march hk t'.1
  have e2 := c_behind6 m1 hd
  have ok : wok (4 * dfg D k) (wM D d k (WR D k d)) := wok_wM hd (wok_WR (by omega))
  have h3 : rmo (wM D d k (WR D k d)) ≤ 36 := by
    have h4 := wok_st ok
    have h5 := (t'.1.2.2.2.2.2.2.2.2.2.2 k hk).2.2.2.2
    rw [rmo_eq]
    split <;> omega
  have q1 : (nI (rmo (wM D d k (WR D k d))) < 1) ↔ rmo (wM D d k (WR D k d)) < 1 := nI_ltI (b := 1) (by omega) (by omega)
  have q2 : (9 < nI (rmo (wM D d k (WR D k d)))) ↔ 9 < rmo (wM D d k (WR D k d)) := nI_ltI (a := 9) (by omega) (by omega)
  refine ⟨h1, ?_, hs.tr (c_sf f1)⟩
  unfold f_CS_last
  rw [c_isCamel t'.1, bd2_s, bI_if, if_pos (inb_lit hk (by omega)), c_isDay, bd2_s, bI_if, if_pos (inb_lit hd (by omega)), e1, bd1_s, e2, bd2_s]
  simp only [q1, q2]
  unfold laR
  by_cases z1 : rmo (wM D d k (WR D k d)) < 1
  · rw [if_pos z1, if_neg (by omega)]
  · by_cases z2 : 9 < rmo (wM D d k (WR D k d))
    · rw [if_neg z1, if_pos z2, if_neg (by omega)]
    · rw [if_neg z1, if_neg z2, if_pos (by omega)]
theorem o_last : op_last Inv := fun a1 a2 => Q.op (fun h0 hi => by
  obtain ⟨D, t⟩ := hi.qs
  have b1 := t.1.2.2.1
  by_cases z1 : inb a1 (dnc D) = true
  · by_cases z2 : inb a2 24 = true
    · obtain ⟨k, k1, k2⟩ := (inb_iff (by omega)).mp z1
      obtain ⟨d, d1, d2⟩ := (inb_iff (by omega)).mp z2
      refine ⟨_, by rw [k2, d2]; exact qc_last t d1 k1, fun h hs => ?_⟩
      obtain ⟨h1, e1, m1, s1⟩ := m_isCamel (a := a1) (t.sf hs)
      unfold f_Mo_last
      rw [e1, bd2_s, bI_if, if_pos z1, m_isDay, bd2_s, bI_if, if_pos z2, bd2_id, k2, d2]
      exact (qm_last t d1 k1).q h1 (hs.tr s1)
    · refine ⟨-2, fun h hs => ⟨h, ?_, hs⟩, fun h hs => ?_⟩
      · unfold f_CS_last
        rw [c_isCamel (t.sf hs).1, bd2_s, bI_if, if_pos z1, c_isDay, bd2_s, bI_if, if_neg z2]
      · obtain ⟨h1, e1, m1, s1⟩ := m_isCamel (a := a1) (t.sf hs)
        refine ⟨h1, ?_, hs.tr s1⟩
        unfold f_Mo_last
        rw [e1, bd2_s, bI_if, if_pos z1, m_isDay, bd2_s, bI_if, if_neg z2]
  · refine ⟨-2, fun h hs => ⟨h, ?_, hs⟩, fun h hs => ?_⟩
    · unfold f_CS_last
      rw [c_isCamel (t.sf hs).1, bd2_s, bI_if, if_neg z1]
    · obtain ⟨h1, e1, m1, s1⟩ := m_isCamel (a := a1) (t.sf hs)
      refine ⟨h1, ?_, hs.tr s1⟩
      unfold f_Mo_last
      rw [e1, bd2_s, bI_if, if_neg z1])
