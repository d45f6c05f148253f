/-! digest -/
def QN {α : Type} (D : DT) (h0 : HP) (f : HP → Option (α × HP)) (r : α) : Prop := ∀ h, SF h0 h → MC D h → ∃ h', f h = some (r, h') ∧ SF h0 h' ∧ MC D h'
theorem QM.n {α : Type} {D : DT} {h0 : HP} {f : HP → Option (α × HP)} {r : α} (q : QM D h0 f r) : QN D h0 f r := fun h hs _ => q h hs
theorem c_mix {x a : Int64} {h : HP} : f_CS_mix x a h = some (31 * x + a, h) := rfl
theorem dg_day {D : DT} {h0 : HP} {d k : Nat} {a : Int64} (t : QS D h0) (hd : d < 24) (hk : k < dnc D) : ∀ (m i : Nat) (x : Int64), i + m = 6 → ∃ r, (∀ fu h, m < fu → SF h0 h → ∃ w h', lp_CS_mixDay_6 a (nI d) (nI k) fu (nI i) x h = some (w, r, h') ∧ SF h0 h') ∧ (∀ fu h, m < fu → SF h0 h → MC D h → ∃ w h', lp_Mo_dayDigest_6 a (nI d) (nI k) fu (nI i) x h = some (w, r, h') ∧ SF h0 h' ∧ MC D h') := by
  intro m
  induction m with
  | zero =>
    intro i x hi
    have q : (6 ≤ nI i) ↔ 6 ≤ i := nI_leI (a := 6) (by omega) (by omega)
    refine ⟨x, fun fu h hf hs => ?_, fun fu h hf hs hm => ?_⟩
    · obtain ⟨f, rfl⟩ : ∃ f, fu = f + 1 := ⟨fu - 1, by omega⟩
      rw [lp_CS_mixDay_6, if_pos (q.mpr (by omega))]
      exact ⟨_, h, rfl, hs⟩
    · obtain ⟨f, rfl⟩ : ∃ f, fu = f + 1 := ⟨fu - 1, by omega⟩
      rw [lp_Mo_dayDigest_6, if_pos (q.mpr (by omega))]
      exact ⟨_, h, rfl, hs, hm⟩
  | succ m ih =>
    intro i x hi
    have q : (6 ≤ nI i) ↔ 6 ≤ i := nI_leI (a := 6) (by omega) (by omega)
    obtain ⟨r, c1, c2⟩ := ih (i + 1) (31 * x + Int32.toInt64 (nI (av (WE D d k) i))) (by omega)
    refine ⟨r, fun fu h hf hs => ?_, fun fu h hf hs hm => ?_⟩
    · obtain ⟨f, rfl⟩ : ∃ f, fu = f + 1 := ⟨fu - 1, by omega⟩
      obtain ⟨h1, e1, s1⟩ := qc_at t hd hk (show i < 6 by omega) h hs
      rw [lp_CS_mixDay_6, if_neg (fun z => by have := q.mp z; omega), e1, bd2_s, c_mix, bd2_s, ltt_s, nI_1]
      exact c1 f h1 (by omega) s1
    · obtain ⟨f, rfl⟩ : ∃ f, fu = f + 1 := ⟨fu - 1, by omega⟩
      obtain ⟨h1, e1, s1, m1⟩ := qm_at t hd hk (show i < 6 by omega) h hs
      rw [lp_Mo_dayDigest_6, if_neg (fun z => by have := q.mp z; omega), e1, bd2_s, ltt_s, ltt_s, nI_1]
      exact c2 f h1 (by omega) s1 m1
theorem q_day {D : DT} {h0 : HP} {d k : Nat} (t : QS D h0) (hd : d < 24) (hk : k < dnc D) (x : Int64) : ∃ r, Q h0 (f_CS_mixDay x (nI d) (nI k)) r ∧ QN D h0 (f_Mo_dayDigest x (nI d) (nI k)) r := by
  obtain ⟨r, c1, c2⟩ := dg_day (a := x) t hd hk 6 0 x rfl
  refine ⟨r, fun h hs => ?_, fun h hs hm => ?_⟩
  · obtain ⟨w, h', e, s⟩ := c1 400 h (by omega) hs
    refine ⟨h', ?_, s⟩
    unfold f_CS_mixDay
    rw [show lp_CS_mixDay_6 x (nI d) (nI k) 400 0 x h = _ from e, bd3_s]
  · obtain ⟨w, h', e, s, m⟩ := c2 400 h (by omega) hs hm
    refine ⟨h', ?_, s, m⟩
    unfold f_Mo_dayDigest
    rw [show lp_Mo_dayDigest_6 x (nI d) (nI k) 400 0 x h = _ from e, bd3_s]
theorem dg_bale {D : DT} {h0 : HP} {k : Nat} {a : Int64} (t : QS D h0) (hk : k < dnb D) : ∀ (m i : Nat) (x : Int64), i + m = 3 → ∃ r, (∀ fu h, m < fu → SF h0 h → ∃ w h', lp_CS_mixBale_6 a (nI k) fu (nI i) x h = some (w, r, h') ∧ SF h0 h') ∧ (∀ fu h, m < fu → SF h0 h → MC D h → ∃ w h', lp_Mo_baleDigest_6 a (nI k) fu (nI i) x h = some (w, r, h') ∧ SF h0 h' ∧ MC D h') := by
  intro m
  induction m with
  | zero =>
    intro i x hi
    have q : (3 ≤ nI i) ↔ 3 ≤ i := nI_leI (a := 3) (by omega) (by omega)
    refine ⟨x, fun fu h hf hs => ?_, fun fu h hf hs hm => ?_⟩
    · obtain ⟨f, rfl⟩ : ∃ f, fu = f + 1 := ⟨fu - 1, by omega⟩
      rw [lp_CS_mixBale_6, if_pos (q.mpr (by omega))]
      exact ⟨_, h, rfl, hs⟩
    · obtain ⟨f, rfl⟩ : ∃ f, fu = f + 1 := ⟨fu - 1, by omega⟩
      rw [lp_Mo_baleDigest_6, if_pos (q.mpr (by omega))]
      exact ⟨_, h, rfl, hs, hm⟩
  | succ m ih =>
    intro i x hi
    have b2 := t.1.2.2.2.1
    have q : (3 ≤ nI i) ↔ 3 ≤ i := nI_leI (a := 3) (by omega) (by omega)
    obtain ⟨r, c1, c2⟩ := ih (i + 1) (31 * x + Int32.toInt64 (if nI i = 0 then dbo D k else if nI i = 1 then nI (dbw D k) else dbd D k)) (by omega)
    refine ⟨r, fun fu h hf hs => ?_, fun fu h hf hs hm => ?_⟩
    · obtain ⟨f, rfl⟩ : ∃ f, fu = f + 1 := ⟨fu - 1, by omega⟩
      obtain ⟨h1, e1, s1⟩ := qc_bale (a := nI i) t hk (inb_lit (show i < 3 by omega) (by omega)) h hs
      rw [lp_CS_mixBale_6, if_neg (fun z => by have := q.mp z; omega), e1, bd2_s, c_mix, bd2_s, ltt_s, nI_1]
      exact c1 f h1 (by omega) s1
    · obtain ⟨f, rfl⟩ : ∃ f, fu = f + 1 := ⟨fu - 1, by omega⟩
      rw [lp_Mo_baleDigest_6, if_neg (fun z => by have := q.mp z; omega), m_baleOf hm b2 hk, bd2_s, ltt_s, ltt_s, nI_1]
      exact c2 f h (by omega) hs hm
theorem q_baleD {D : DT} {h0 : HP} {k : Nat} (t : QS D h0) (hk : k < dnb D) (x : Int64) : ∃ r, Q h0 (f_CS_mixBale x (nI k)) r ∧ QN D h0 (f_Mo_baleDigest x (nI k)) r := by
  obtain ⟨r, c1, c2⟩ := dg_bale (a := x) t hk 3 0 x rfl
  obtain ⟨p0, cp0, mp0⟩ : ∃ v, Q h0 (f_CS_bear (nI k) 0) v ∧ QM D h0 (f_Mo_bearOf (nI k) 0) v := ⟨_, qc_bear t hk in02, qm_bear t hk⟩
  obtain ⟨p1, cp1, mp1⟩ : ∃ v, Q h0 (f_CS_bear (nI k) 1) v ∧ QM D h0 (f_Mo_bearOf (nI k) 1) v := ⟨_, qc_bear t hk in12, qm_bear t hk⟩
  obtain ⟨p2, cp2, mp2⟩ : ∃ v, Q h0 (f_CS_when (nI k) 0) v ∧ QM D h0 (f_Mo_whenOf (nI k) 0) v := ⟨_, qc_when t hk in02, qm_when t hk⟩
  obtain ⟨p3, cp3, mp3⟩ : ∃ v, Q h0 (f_CS_when (nI k) 1) v ∧ QM D h0 (f_Mo_whenOf (nI k) 1) v := ⟨_, qc_when t hk in12, qm_when t hk⟩
  refine ⟨31 * (31 * (31 * (31 * r + Int32.toInt64 p0) + Int32.toInt64 p1) + Int32.toInt64 p2) + Int32.toInt64 p3, fun h hs => ?_, fun h hs hm => ?_⟩
  · obtain ⟨w, h1, e1, s1⟩ := c1 400 h (by omega) hs
    obtain ⟨h2, e2, s2⟩ := cp0 h1 s1
    obtain ⟨h3, e3, s3⟩ := cp1 h2 s2
    obtain ⟨h4, e4, s4⟩ := cp2 h3 s3
    obtain ⟨h5, e5, s5⟩ := cp3 h4 s4
    refine ⟨h5, ?_, s5⟩
    unfold f_CS_mixBale
    rw [show lp_CS_mixBale_6 x (nI k) 400 0 x h = _ from e1, bd3_s, e2, bd2_s, c_mix, bd2_s, e3, bd2_s, c_mix, bd2_s, e4, bd2_s, c_mix, bd2_s, e5, bd2_s, c_mix, bd2_s]
  · obtain ⟨w, h1, e1, s1, m1⟩ := c2 400 h (by omega) hs hm
    obtain ⟨h2, e2, s2, m2⟩ := mp0 h1 s1
    obtain ⟨h3, e3, s3, m3⟩ := mp1 h2 s2
    obtain ⟨h4, e4, s4, m4⟩ := mp2 h3 s3
    obtain ⟨h5, e5, s5, m5⟩ := mp3 h4 s4
    refine ⟨h5, ?_, s5, m5⟩
    unfold f_Mo_baleDigest
    rw [show lp_Mo_baleDigest_6 x (nI k) 400 0 x h = _ from e1, bd3_s, e2, bd2_s, ltt_s, e3, bd2_s, ltt_s, e4, bd2_s, ltt_s, e5, bd2_s]
theorem q_camelD {D : DT} {h0 : HP} {k m : Nat} (t : QS D h0) (nb : NB m h0) (hk : k < dnc D) (x : Int64) : ∃ r, Q h0 (f_CS_mixCamel x (nI k)) r ∧ QN D h0 (f_Mo_camelDigest x (nI k)) r := by
  have b1 := t.1.2.2.1
  obtain ⟨x1, hx1⟩ : ∃ y : Int64, y = 31 * (31 * x + Int32.toInt64 (if (0 : Int32) = 0 then nI (dso D k) else nI (4 * dfg D k))) + Int32.toInt64 (if (1 : Int32) = 0 then nI (dso D k) else nI (4 * dfg D k)) := ⟨_, rfl⟩
  obtain ⟨x2, d1, g1⟩ := q_day t (show 0 < 24 by omega) hk x1
  obtain ⟨x3, d2, g2⟩ := q_day t (show 7 < 24 by omega) hk x2
  obtain ⟨x4, d3, g3⟩ := q_day t (show 14 < 24 by omega) hk x3
  obtain ⟨x5, d4, g4⟩ := q_day t (show 23 < 24 by omega) hk x4
  obtain ⟨p0, cp0, mp0⟩ : ∃ v, Q h0 (f_CS_last (nI k) (nI 5)) v ∧ QM D h0 (f_Mo_lastOf (nI k) (nI 5)) v := ⟨_, qc_last t (show 5 < 24 by omega) hk, qm_last t (show 5 < 24 by omega) hk⟩
  obtain ⟨p1, cp1, mp1⟩ : ∃ v, Q h0 (f_CS_was (nI k) 0) v ∧ QM D h0 (f_Mo_sortsBy (nI k)) v := ⟨_, qc_was t nb hk in02, qm_sorts t nb hk⟩
  obtain ⟨p2, cp2, mp2⟩ : ∃ v, Q h0 (f_CS_was (nI k) 1) v ∧ QM D h0 (f_Mo_strongBy (nI k)) v := ⟨_, qc_was t nb hk in12, qm_figs t nb hk⟩
  obtain ⟨p3, cp3, mp3⟩ : ∃ v, Q h0 (f_CS_ask (nI k)) v ∧ QM D h0 (f_Mo_askOf (nI k)) v := ⟨_, qc_ask t nb hk, qm_ask t nb hk⟩
  obtain ⟨p4, cp4, mp4⟩ : ∃ v, Q h0 (f_CS_chance (nI 5) (nI k) 0) v ∧ QM D h0 (f_Mo_chanceOf (nI 5) (nI k) 0) v := ⟨_, qc_chance t hk (by omega) in02, qm_chance t hk (by omega)⟩
  obtain ⟨p5, cp5, mp5⟩ : ∃ v, Q h0 (f_CS_chance (nI 5) (nI k) 1) v ∧ QM D h0 (f_Mo_chanceOf (nI 5) (nI k) 1) v := ⟨_, qc_chance t hk (by omega) in12, qm_chance t hk (by omega)⟩
  refine ⟨31 * (31 * (31 * (31 * (31 * (31 * x5 + Int32.toInt64 p0) + Int32.toInt64 p1) + Int32.toInt64 p2) + Int32.toInt64 p3) + p4) + p5, fun h hs => ?_, fun h hs hm => ?_⟩
  · obtain ⟨h1, e1, s1⟩ := qc_camel (a := 0) t hk in02 h hs
    obtain ⟨h2, e2, s2⟩ := qc_camel (a := 1) t hk in12 h1 s1
    obtain ⟨h3, e3, s3⟩ := d1 h2 s2
    obtain ⟨h4, e4, s4⟩ := d2 h3 s3
    obtain ⟨h5, e5, s5⟩ := d3 h4 s4
    obtain ⟨h6, e6, s6⟩ := d4 h5 s5
    obtain ⟨h7, e7, s7⟩ := cp0 h6 s6
    obtain ⟨h8, e8, s8⟩ := cp1 h7 s7
    obtain ⟨h9, e9, s9⟩ := cp2 h8 s8
    obtain ⟨h10, e10, s10⟩ := cp3 h9 s9
    obtain ⟨h11, e11, s11⟩ := cp4 h10 s10
    obtain ⟨h12, e12, s12⟩ := cp5 h11 s11
    refine ⟨h12, ?_, s12⟩
    unfold f_CS_mixCamel
    rw [e1, bd2_s, c_mix, bd2_s, e2, bd2_s, c_mix, bd2_s, ← hx1]
    rw [show f_CS_mixDay x1 0 (nI k) h2 = _ from e3, bd2_s, show f_CS_mixDay x2 7 (nI k) h3 = _ from e4, bd2_s, show f_CS_mixDay x3 14 (nI k) h4 = _ from e5, bd2_s, show f_CS_mixDay x4 23 (nI k) h5 = _ from e6, bd2_s]
    rw [show f_CS_last (nI k) 5 h6 = _ from e7, bd2_s, c_mix, bd2_s, e8, bd2_s, c_mix, bd2_s, e9, bd2_s, c_mix, bd2_s, e10, bd2_s, c_mix, bd2_s, show f_CS_chance 5 (nI k) 0 h10 = _ from e11, bd2_s, c_mix, bd2_s, show f_CS_chance 5 (nI k) 1 h11 = _ from e12, bd2_s, c_mix, bd2_s]
  · obtain ⟨h3, e3, s3, m3⟩ := g1 h hs hm
    obtain ⟨h4, e4, s4, m4⟩ := g2 h3 s3 m3
    obtain ⟨h5, e5, s5, m5⟩ := g3 h4 s4 m4
    obtain ⟨h6, e6, s6, m6⟩ := g4 h5 s5 m5
    obtain ⟨h7, e7, s7, m7⟩ := mp0 h6 s6
    obtain ⟨h8, e8, s8, m8⟩ := mp1 h7 s7
    obtain ⟨h9, e9, s9, m9⟩ := mp2 h8 s8
    obtain ⟨h10, e10, s10, m10⟩ := mp3 h9 s9
    obtain ⟨h11, e11, s11, m11⟩ := mp4 h10 s10
    obtain ⟨h12, e12, s12, m12⟩ := mp5 h11 s11
    refine ⟨h12, ?_, s12, m12⟩
    unfold f_Mo_camelDigest
    rw [m_camelOf hm b1 hk, bd2_s, ltt_s, m_camelOf hm b1 hk, bd2_s, ltt_s, ← hx1]
    rw [show f_Mo_dayDigest x1 0 (nI k) h = _ from e3, bd2_s, show f_Mo_dayDigest x2 7 (nI k) h3 = _ from e4, bd2_s, show f_Mo_dayDigest x3 14 (nI k) h4 = _ from e5, bd2_s, show f_Mo_dayDigest x4 23 (nI k) h5 = _ from e6, bd2_s]
    rw [show f_Mo_lastOf (nI k) 5 h6 = _ from e7, bd2_s, ltt_s, e8, bd2_s, ltt_s, e9, bd2_s, ltt_s, e10, bd2_s, ltt_s, show f_Mo_chanceOf 5 (nI k) 0 h10 = _ from e11, bd2_s, ltt_s, show f_Mo_chanceOf 5 (nI k) 1 h11 = _ from e12, bd2_s]
theorem dg_count {D : DT} {h0 : HP} (t : QS D h0) (hf : FB h0) : ∀ (m i : Nat) (x : Int64), i + m = 8 → ∃ r, (∀ fu h, m < fu → SF h0 h → ∃ w h', lp_CS_digest_6 fu (nI i) x h = some (w, r, h') ∧ SF h0 h') ∧ (∀ fu h, m < fu → SF h0 h → ∃ w h', lp_Mo_digest_6 fu (nI i) x h = some (w, r, h') ∧ SF h0 h') := by
  intro m
  induction m with
  | zero =>
    intro i x hi
    have q : (8 ≤ nI i) ↔ 8 ≤ i := nI_leI (a := 8) (by omega) (by omega)
    refine ⟨x, fun fu h hf hs => ?_, fun fu h hf hs => ?_⟩
    · obtain ⟨f, rfl⟩ : ∃ f, fu = f + 1 := ⟨fu - 1, by omega⟩
      rw [lp_CS_digest_6, if_pos (q.mpr (by omega))]
      exact ⟨_, h, rfl, hs⟩
    · obtain ⟨f, rfl⟩ : ∃ f, fu = f + 1 := ⟨fu - 1, by omega⟩
      rw [lp_Mo_digest_6, if_pos (q.mpr (by omega))]
      exact ⟨_, h, rfl, hs⟩
  | succ m ih =>
    intro i x hi
    have q : (8 ≤ nI i) ↔ 8 ≤ i := nI_leI (a := 8) (by omega) (by omega)
    obtain ⟨v, v1, v2⟩ := q_count (a := nI i) t hf
    obtain ⟨r, c1, c2⟩ := ih (i + 1) (31 * x + Int32.toInt64 v) (by omega)
    refine ⟨r, fun fu h hf hs => ?_, fun fu h hf hs => ?_⟩
    · obtain ⟨f, rfl⟩ : ∃ f, fu = f + 1 := ⟨fu - 1, by omega⟩
      obtain ⟨h1, e1, s1⟩ := v1 h hs
      rw [lp_CS_digest_6, if_neg (fun z => by have := q.mp z; omega), e1, bd2_s, c_mix, bd2_s, ltt_s, nI_1]
      exact c1 f h1 (by omega) s1
    · obtain ⟨f, rfl⟩ : ∃ f, fu = f + 1 := ⟨fu - 1, by omega⟩
      obtain ⟨h1, e1, s1⟩ := v2 h hs
      rw [lp_Mo_digest_6, if_neg (fun z => by have := q.mp z; omega), e1, bd2_s, ltt_s, ltt_s, nI_1]
      exact c2 f h1 (by omega) s1
theorem dg_bales {D : DT} {h0 : HP} (t : QS D h0) : ∀ (m i : Nat) (x : Int64), i + m = dnb D → ∃ r, (∀ fu h, m < fu → SF h0 h → ∃ w h', lp_CS_digest_55 fu (nI i) x h = some (w, r, h') ∧ SF h0 h') ∧ (∀ fu h, m < fu → SF h0 h → MC D h → ∃ w h', lp_Mo_digest_59 fu (nI i) x h = some (w, r, h') ∧ SF h0 h' ∧ MC D h') := by
  have b2 := t.1.2.2.2.1
  intro m
  induction m with
  | zero =>
    intro i x hi
    have q : (nI (dnb D) ≤ nI i) ↔ dnb D ≤ i := nI_leI (by omega) (by omega)
    refine ⟨x, fun fu h hf hs => ?_, fun fu h hf hs hm => ?_⟩
    · obtain ⟨f, rfl⟩ : ∃ f, fu = f + 1 := ⟨fu - 1, by omega⟩
      rw [lp_CS_digest_55, show rI h 66 4 = nI (dnb D) from (t.sf hs).1.2.1, ltt_s, if_pos (q.mpr (by omega))]
      exact ⟨_, h, rfl, hs⟩
    · obtain ⟨f, rfl⟩ : ∃ f, fu = f + 1 := ⟨fu - 1, by omega⟩
      rw [lp_Mo_digest_59, show rI h 34 5 = nI (dnb D) from hm.2.1, ltt_s, if_pos (q.mpr (by omega))]
      exact ⟨_, h, rfl, hs, hm⟩
  | succ m ih =>
    intro i x hi
    have q : (nI (dnb D) ≤ nI i) ↔ dnb D ≤ i := nI_leI (by omega) (by omega)
    obtain ⟨v, v1, v2⟩ := q_baleD t (show i < dnb D by omega) x
    obtain ⟨r, c1, c2⟩ := ih (i + 1) v (by omega)
    refine ⟨r, fun fu h hf hs => ?_, fun fu h hf hs hm => ?_⟩
    · obtain ⟨f, rfl⟩ : ∃ f, fu = f + 1 := ⟨fu - 1, by omega⟩
      obtain ⟨h1, e1, s1⟩ := v1 h hs
      rw [lp_CS_digest_55, show rI h 66 4 = nI (dnb D) from (t.sf hs).1.2.1, ltt_s, if_neg (fun z => by have := q.mp z; omega), e1, bd2_s, ltt_s, nI_1]
      exact c1 f h1 (by omega) s1
    · obtain ⟨f, rfl⟩ : ∃ f, fu = f + 1 := ⟨fu - 1, by omega⟩
      obtain ⟨h1, e1, s1, m1⟩ := v2 h hs hm
      rw [lp_Mo_digest_59, show rI h 34 5 = nI (dnb D) from hm.2.1, ltt_s, if_neg (fun z => by have := q.mp z; omega), e1, bd2_s, ltt_s, nI_1]
      exact c2 f h1 (by omega) s1 m1
theorem dg_camels {D : DT} {h0 : HP} {n : Nat} (t : QS D h0) (nb : NB n h0) : ∀ (m i : Nat) (x : Int64), i + m = dnc D → ∃ r, (∀ fu h, m < fu → SF h0 h → ∃ w h', lp_CS_digest_81 fu (nI i) x h = some (w, r, h') ∧ SF h0 h') ∧ (∀ fu h, m < fu → SF h0 h → MC D h → ∃ w h', lp_Mo_digest_82 fu (nI i) x h = some (w, r, h') ∧ SF h0 h' ∧ MC D h') := by
  have b1 := t.1.2.2.1
  intro m
  induction m with
  | zero =>
    intro i x hi
    have q : (nI (dnc D) ≤ nI i) ↔ dnc D ≤ i := nI_leI (by omega) (by omega)
    refine ⟨x, fun fu h hf hs => ?_, fun fu h hf hs hm => ?_⟩
    · obtain ⟨f, rfl⟩ : ∃ f, fu = f + 1 := ⟨fu - 1, by omega⟩
      rw [lp_CS_digest_81, show rI h 70 4 = nI (dnc D) from (t.sf hs).1.1, ltt_s, if_pos (q.mpr (by omega))]
      exact ⟨_, h, rfl, hs⟩
    · obtain ⟨f, rfl⟩ : ∃ f, fu = f + 1 := ⟨fu - 1, by omega⟩
      rw [lp_Mo_digest_82, show rI h 34 2 = nI (dnc D) from hm.1, ltt_s, if_pos (q.mpr (by omega))]
      exact ⟨_, h, rfl, hs, hm⟩
  | succ m ih =>
    intro i x hi
    have q : (nI (dnc D) ≤ nI i) ↔ dnc D ≤ i := nI_leI (by omega) (by omega)
    obtain ⟨v, v1, v2⟩ := q_camelD t nb (show i < dnc D by omega) x
    obtain ⟨r, c1, c2⟩ := ih (i + 1) v (by omega)
    refine ⟨r, fun fu h hf hs => ?_, fun fu h hf hs hm => ?_⟩
    · obtain ⟨f, rfl⟩ : ∃ f, fu = f + 1 := ⟨fu - 1, by omega⟩
      obtain ⟨h1, e1, s1⟩ := v1 h hs
      rw [lp_CS_digest_81, show rI h 70 4 = nI (dnc D) from (t.sf hs).1.1, ltt_s, if_neg (fun z => by have := q.mp z; omega), e1, bd2_s, ltt_s, nI_1]
      exact c1 f h1 (by omega) s1
    · obtain ⟨f, rfl⟩ : ∃ f, fu = f + 1 := ⟨fu - 1, by omega⟩
      obtain ⟨h1, e1, s1, m1⟩ := v2 h hs hm
      rw [lp_Mo_digest_82, show rI h 34 2 = nI (dnc D) from hm.1, ltt_s, if_neg (fun z => by have := q.mp z; omega), e1, bd2_s, ltt_s, nI_1]
      exact c2 f h1 (by omega) s1 m1
theorem q_digest {D : DT} {h0 : HP} (t : QS D h0) (hf : FB h0) : ∃ r, Q h0 f_CS_digest r ∧ Q h0 f_Mo_digest r := by
  have b1 := t.1.2.2.1
  have b2 := t.1.2.2.2.1
  obtain ⟨m, nb⟩ := t.2.2.2.2.2.2.2.2
  obtain ⟨y1, a1, m1⟩ := dg_count t hf 8 0 17 rfl
  obtain ⟨f0, a2, m2⟩ := q_fault t in02
  obtain ⟨f1, a3, m3⟩ := q_fault t in12
  obtain ⟨y2, hy2⟩ : ∃ y : Int64, y = 31 * (31 * y1 + Int32.toInt64 f0) + Int32.toInt64 f1 := ⟨_, rfl⟩
  obtain ⟨y3, a4, m4⟩ := dg_bales t (dnb D) 0 y2 (Nat.zero_add _)
  obtain ⟨y4, a5, m5⟩ := dg_camels t nb (dnc D) 0 y3 (Nat.zero_add _)
  obtain ⟨v1, a6, m6⟩ := q_first t in02
  obtain ⟨v2, a7, m7⟩ := q_first t in12
  obtain ⟨p1, cp1, mp1⟩ : ∃ v, Q h0 f_CS_through v ∧ QM D h0 f_Mo_throughOf v := ⟨_, qc_through t, qm_through t⟩
  obtain ⟨p2, cp2, mp2⟩ : ∃ v, Q h0 f_CS_lost v ∧ QM D h0 f_Mo_lostOf v := ⟨_, qc_lost t, qm_lost t⟩
  obtain ⟨p3, cp3, mp3⟩ : ∃ v, Q h0 f_CS_best v ∧ QM D h0 f_Mo_bestOf v := ⟨_, qc_best t, qm_best t⟩
  obtain ⟨p4, cp4, mp4⟩ : ∃ v, Q h0 f_CS_whole v ∧ QM D h0 f_Mo_wholeOf v := ⟨_, qc_whole t, qm_whole t⟩
  obtain ⟨p5, cp5, mp5⟩ : ∃ v, Q h0 f_CS_tired v ∧ QM D h0 f_Mo_tiredOf v := ⟨_, qc_tired t, qm_tired t⟩
  obtain ⟨p6, cp6, mp6⟩ : ∃ v, Q h0 f_CS_never v ∧ Q h0 f_Mo_neverNow v := ⟨_, qc_never t nb, qm_never t nb⟩
  obtain ⟨p7, cp7, mp7⟩ : ∃ v, Q h0 (f_CS_years 7 (nI 6) 0) v ∧ Q h0 (f_Mo_yearsOf 7 (nI 6) 0) v := ⟨_, qc_years t (by omega) in02, qm_years t (by omega)⟩
  obtain ⟨p8, cp8, mp8⟩ : ∃ v, Q h0 (f_CS_years 7 (nI 6) 1) v ∧ Q h0 (f_Mo_yearsOf 7 (nI 6) 1) v := ⟨_, qc_years t (by omega) in12, qm_years t (by omega)⟩
  have es : spI (spD D) (-1) = mvl (spD D) := if_pos rfl
  refine ⟨31 * (31 * (31 * (31 * (31 * (31 * (31 * (31 * (31 * (31 * (31 * (31 * y4 + Int32.toInt64 p1) + Int32.toInt64 p2) + Int32.toInt64 v1) + Int32.toInt64 v2) + Int32.toInt64 p3) + Int32.toInt64 p4) + Int32.toInt64 p5) + Int32.toInt64 (mvl (spD D))) + Int32.toInt64 (spI (spD D) 0)) + Int32.toInt64 p6) + Int32.toInt64 p7) + Int32.toInt64 p8, fun h hs => ?_, fun h hs => ?_⟩
  · obtain ⟨w1, h1, e1, s1⟩ := a1 400 h (by omega) hs
    obtain ⟨h2, e2, s2⟩ := a2 h1 s1
    obtain ⟨h3, e3, s3⟩ := a3 h2 s2
    obtain ⟨w4, h4, e4, s4⟩ := a4 400 h3 (by omega) s3
    obtain ⟨w5, h5, e5, s5⟩ := a5 400 h4 (by omega) s4
    obtain ⟨h6, e6, s6⟩ := cp1 h5 s5
    obtain ⟨h7, e7, s7⟩ := cp2 h6 s6
    obtain ⟨h8, e8, s8⟩ := a6 h7 s7
    obtain ⟨h9, e9, s9⟩ := a7 h8 s8
    obtain ⟨h10, e10, s10⟩ := cp3 h9 s9
    obtain ⟨h11, e11, s11⟩ := cp4 h10 s10
    obtain ⟨h12, e12, s12⟩ := cp5 h11 s11
    obtain ⟨h13, e13, s13⟩ := qc_spare (a := -1) t (Or.inl rfl) h12 s12
    obtain ⟨h14, e14, s14⟩ := qc_spare (a := 0) t (Or.inr (Or.inl rfl)) h13 s13
    obtain ⟨h15, e15, s15⟩ := cp6 h14 s14
    obtain ⟨h16, e16, s16⟩ := cp7 h15 s15
    obtain ⟨h17, e17, s17⟩ := cp8 h16 s16
    rw [es] at e13
    refine ⟨h17, ?_, s17⟩
    have e23 : lp_CS_digest_31 400 0 y1 h1 = some (2, y2, h3) := by
      rw [show (400 : Nat) = 397 + 1 + 1 + 1 from rfl, lp_CS_digest_31, if_neg (by decide), e2, bd2_s, c_mix, bd2_s, ltt_s, show (0 : Int32) + 1 = 1 from by decide, lp_CS_digest_31, if_neg (by decide), e3, bd2_s, c_mix, bd2_s, ltt_s, show (1 : Int32) + 1 = 2 from by decide, lp_CS_digest_31, if_pos (by decide), ← hy2]
    unfold f_CS_digest
    rw [show lp_CS_digest_6 400 0 17 h = _ from e1, bd3_s, e23, bd3_s, show lp_CS_digest_55 400 0 y2 h3 = _ from e4, bd3_s, show lp_CS_digest_81 400 0 y3 h4 = _ from e5, bd3_s]
    rw [e6, bd2_s, c_mix, bd2_s, e7, bd2_s, c_mix, bd2_s, e8, bd2_s, c_mix, bd2_s, e9, bd2_s, c_mix, bd2_s, e10, bd2_s, c_mix, bd2_s, e11, bd2_s, c_mix, bd2_s, e12, bd2_s, c_mix, bd2_s, e13, bd2_s, c_mix, bd2_s, e14, bd2_s, c_mix, bd2_s, e15, bd2_s, c_mix, bd2_s, show f_CS_years 7 6 0 h15 = _ from e16, bd2_s, c_mix, bd2_s, show f_CS_years 7 6 1 h16 = _ from e17, bd2_s, c_mix, bd2_s]
  · obtain ⟨w1, h1, e1, s1⟩ := m1 400 h (by omega) hs
    obtain ⟨h2, e2, s2, c2⟩ := m2 h1 s1
    obtain ⟨h3, e3, s3, c3⟩ := m3 h2 s2
    obtain ⟨w4, h4, e4, s4, c4⟩ := m4 400 h3 (by omega) s3 c3
    obtain ⟨w5, h5, e5, s5, c5⟩ := m5 400 h4 (by omega) s4 c4
    obtain ⟨h6, e6, s6, c6⟩ := mp1 h5 s5
    obtain ⟨h7, e7, s7, c7⟩ := mp2 h6 s6
    obtain ⟨h8, e8, s8, c8⟩ := m6 h7 s7
    obtain ⟨h9, e9, s9, c9⟩ := m7 h8 s8
    obtain ⟨h10, e10, s10, c10⟩ := mp3 h9 s9
    obtain ⟨h11, e11, s11, c11⟩ := mp4 h10 s10
    obtain ⟨h12, e12, s12, c12⟩ := mp5 h11 s11
    obtain ⟨h13, e13, s13, p13⟩ := qm_spared t h12 s12
    have e14 := m_ofRow (a := 0) (n := dns D) spD_ok p13 (Or.inr (Or.inl rfl))
    obtain ⟨h15, e15, s15⟩ := mp6 h13 s13
    obtain ⟨h16, e16, s16⟩ := mp7 h15 s15
    obtain ⟨h17, e17, s17⟩ := mp8 h16 s16
    refine ⟨h17, ?_, s17⟩
    unfold f_Mo_digest
    rw [show lp_Mo_digest_6 400 0 17 h = _ from e1, bd3_s, e2, bd2_s, ltt_s, e3, bd2_s, ltt_s, ← hy2, show lp_Mo_digest_59 400 0 y2 h3 = _ from e4, bd3_s, show lp_Mo_digest_82 400 0 y3 h4 = _ from e5, bd3_s]
    rw [e6, bd2_s, ltt_s, e7, bd2_s, ltt_s, e8, bd2_s, ltt_s, e9, bd2_s, ltt_s, e10, bd2_s, ltt_s, e11, bd2_s, ltt_s, e12, bd2_s, ltt_s, e13, bd2_s, ltt_s, e14, bd2_s, ltt_s, e15, bd2_s, ltt_s, show f_Mo_yearsOf 7 6 0 h15 = _ from e16, bd2_s, ltt_s, show f_Mo_yearsOf 7 6 1 h16 = _ from e17, bd2_s]
theorem o_digest : op_digest Inv := Q.op (fun h0 hi => by
  obtain ⟨D, t⟩ := hi.qs
  exact q_digest t hi.2.2.2.2.1)
