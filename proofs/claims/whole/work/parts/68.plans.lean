/-! bear and when -/
def Dbo (D : DT) (i : Nat) (v : Int32) : DT := (dnc D, dnb D, dns D, dso D, dfg D, dbd D, fun j => if j = i then v else dbo D j, dbw D, dsd D, dsk D, dlo D)
def Dbd (D : DT) (i : Nat) (v : Int32) : DT := (dnc D, dnb D, dns D, dso D, dfg D, fun j => if j = i then v else dbd D j, dbo D, dbw D, dsd D, dsk D, dlo D)
theorem upf {α : Type} {f : Nat → α} {i : Nat} {u v : α} : (fun j => if j = i then v else (fun j => if j = i then u else f j) j) = (fun j => if j = i then v else f j) := by
  funext j
  by_cases h : j = i <;> simp [h]
theorem upf_self {α : Type} {f : Nat → α} {i : Nat} : (fun j => if j = i then f i else f j) = f := by
  funext j
  by_cases h : j = i <;> simp [h]
theorem Dbo_2 {D : DT} {i : Nat} {u v : Int32} : Dbo (Dbo D i u) i v = Dbo D i v := by
  show ((dnc D, dnb D, dns D, dso D, dfg D, dbd D, (fun j => if j = i then v else (fun j => if j = i then u else dbo D j) j), dbw D, dsd D, dsk D, dlo D) : DT) = _
  rw [upf]
  rfl
theorem Dbd_2 {D : DT} {i : Nat} {u v : Int32} : Dbd (Dbd D i u) i v = Dbd D i v := by
  show ((dnc D, dnb D, dns D, dso D, dfg D, (fun j => if j = i then v else (fun j => if j = i then u else dbd D j) j), dbo D, dbw D, dsd D, dsk D, dlo D) : DT) = _
  rw [upf]
  rfl
theorem Dbo_self {D : DT} {i : Nat} : Dbo D i (dbo D i) = D := by
  show ((dnc D, dnb D, dns D, dso D, dfg D, dbd D, (fun j => if j = i then dbo D i else dbo D j), dbw D, dsd D, dsk D, dlo D) : DT) = _
  rw [upf_self]
theorem Dbd_self {D : DT} {i : Nat} : Dbd D i (dbd D i) = D := by
  show ((dnc D, dnb D, dns D, dso D, dfg D, (fun j => if j = i then dbd D i else dbd D j), dbo D, dbw D, dsd D, dsk D, dlo D) : DT) = _
  rw [upf_self]
theorem CD.bo {D : DT} {i : Nat} {v : Int32} {h : HP} (hc : CD D h) (h60 : h.2.2 = 60) : CD (Dbo D i v) (sI h 64 i v) := by
  obtain ⟨c1, c2, b1, b2, b3, c3, c4, c5, c6, c7, c8⟩ := hc
  obtain ⟨r1, r2, r3, r4⟩ := rf_60
  have e2 : (sI h 64 i v).2.2 = 60 := h60
  have g : ∀ a, a ≠ 64 → (sI h 64 i v).1 a = h.1 a := fun a ha => sI_na ha
  rw [h60] at c5 c6
  rw [r1, r2] at c6
  refine ⟨by rw [g 70 (by decide)]; exact c1, by rw [g 66 (by decide)]; exact c2, b1, b2, b3, fun j hj => ?_, Or.inl e2, by rw [e2, g 60 (by decide)]; exact c5, fun j hj => by rw [e2, r1, r2, g 59 (by decide), g 58 (by decide)]; exact c6 j hj, by rw [g 54 (by decide)]; exact c7, fun j hj => by rw [g 68 (by decide), g 67 (by decide)]; exact c8 j hj⟩
  obtain ⟨d1, d2, d3, d4⟩ := c3 j hj
  refine ⟨by rw [g 62 (by decide)]; exact d1, ?_, by rw [g 63 (by decide)]; exact d3, d4⟩
  show (sI h 64 i v).1 64 j = if j = i then v else dbo D j
  rw [rd_sI, ← d2]
  by_cases z : j = i <;> simp [z]
theorem CD.bd {D : DT} {i : Nat} {v : Int32} {h : HP} (hc : CD D h) (h60 : h.2.2 = 60) : CD (Dbd D i v) (sI h 62 i v) := by
  obtain ⟨c1, c2, b1, b2, b3, c3, c4, c5, c6, c7, c8⟩ := hc
  obtain ⟨r1, r2, r3, r4⟩ := rf_60
  have e2 : (sI h 62 i v).2.2 = 60 := h60
  have g : ∀ a, a ≠ 62 → (sI h 62 i v).1 a = h.1 a := fun a ha => sI_na ha
  rw [h60] at c5 c6
  rw [r1, r2] at c6
  refine ⟨by rw [g 70 (by decide)]; exact c1, by rw [g 66 (by decide)]; exact c2, b1, b2, b3, fun j hj => ?_, Or.inl e2, by rw [e2, g 60 (by decide)]; exact c5, fun j hj => by rw [e2, r1, r2, g 59 (by decide), g 58 (by decide)]; exact c6 j hj, by rw [g 54 (by decide)]; exact c7, fun j hj => by rw [g 68 (by decide), g 67 (by decide)]; exact c8 j hj⟩
  obtain ⟨d1, d2, d3, d4⟩ := c3 j hj
  refine ⟨?_, by rw [g 64 (by decide)]; exact d2, by rw [g 63 (by decide)]; exact d3, d4⟩
  show (sI h 62 i v).1 62 j = if j = i then v else dbd D j
  rw [rd_sI, ← d1]
  by_cases z : j = i <;> simp [z]
theorem MD.bo {D : DT} {i c : Nat} {v : Int32} {h : HP} (hm : MD D h) (hc : c < 8) (hv : v = nI c) : MD (Dbo D i v) (sI h 29 i v) := by
  obtain ⟨m1, m2, m3, m4, m5, m6, m7, m8, m9, m10⟩ := hm
  have g : ∀ a, a ≠ 29 → (sI h 29 i v).1 a = h.1 a := fun a ha => sI_na ha
  refine ⟨by rw [g 34 (by decide)]; exact m1, by rw [g 34 (by decide)]; exact m2, m3, m4, m5, by rw [g 34 (by decide)]; exact m6, by rw [g 34 (by decide)]; exact m7, fun j hj => ?_, fun j hj => by rw [g 24 (by decide), g 23 (by decide)]; exact m9 j hj, fun j hj => by rw [g 31 (by decide), g 30 (by decide)]; exact m10 j hj⟩
  obtain ⟨d1, d2, d3, d4, d5⟩ := m8 j hj
  rw [g 27 (by decide), g 28 (by decide)]
  by_cases z : j = i
  · subst z
    have e : dbo (Dbo D j v) j = v := if_pos rfl
    rw [e]
    exact ⟨d1, by simp [rd_sI], d3, d4, c, hc, hv⟩
  · have e : dbo (Dbo D i v) j = dbo D j := if_neg z
    rw [e]
    exact ⟨d1, by simp [rd_sI, z, d2], d3, d4, d5⟩
theorem MD.bd {D : DT} {i : Nat} {v : Int32} {h : HP} (hm : MD D h) : MD (Dbd D i v) (sI h 27 i v) := by
  obtain ⟨m1, m2, m3, m4, m5, m6, m7, m8, m9, m10⟩ := hm
  have g : ∀ a, a ≠ 27 → (sI h 27 i v).1 a = h.1 a := fun a ha => sI_na ha
  refine ⟨by rw [g 34 (by decide)]; exact m1, by rw [g 34 (by decide)]; exact m2, m3, m4, m5, by rw [g 34 (by decide)]; exact m6, by rw [g 34 (by decide)]; exact m7, fun j hj => ?_, fun j hj => by rw [g 24 (by decide), g 23 (by decide)]; exact m9 j hj, fun j hj => by rw [g 31 (by decide), g 30 (by decide)]; exact m10 j hj⟩
  obtain ⟨d1, d2, d3, d4, d5⟩ := m8 j hj
  rw [g 29 (by decide), g 28 (by decide)]
  by_cases z : j = i
  · subst z
    have e : dbd (Dbd D j v) j = v := if_pos rfl
    rw [e]
    exact ⟨by simp [rd_sI], d2, d3, d4, d5⟩
  · have e : dbd (Dbd D i v) j = dbd D j := if_neg z
    rw [e]
    exact ⟨by simp [rd_sI, z, d1], d2, d3, d4, d5⟩
def thr (D : DT) : Nat := sumN (dnc D) (fun k => av (WE D 23 k) 4)
def chs (r : Nat → Int32) : Nat → Int32 × Int32
  | 0 => (-1, -1)
  | n + 1 => if r n ≤ (chs r n).2 then chs r n else (nI n, r n)
theorem sumN_1 {f g : Nat → Nat} {v : Nat} : ∀ n, (∀ k, k < n → k ≠ v → f k = g k) → sumN n f + (if v < n then g v else 0) = sumN n g + (if v < n then f v else 0)
  | 0, _ => rfl
  | n + 1, h => by
    have ih := sumN_1 (f := f) (g := g) (v := v) n (fun k hk => h k (by omega))
    show sumN n f + f n + _ = sumN n g + g n + _
    by_cases e : n = v
    · subst e
      rw [if_neg (Nat.lt_irrefl _)] at ih
      rw [if_neg (Nat.lt_irrefl _)] at ih
      rw [if_pos (Nat.lt_succ_self _), if_pos (Nat.lt_succ_self _)]
      omega
    · have e2 := h n (by omega) e
      by_cases z : v < n
      · rw [if_pos z, if_pos z] at ih
        rw [if_pos (by omega), if_pos (by omega)]
        omega
      · rw [if_neg z, if_neg z] at ih
        rw [if_neg (by omega), if_neg (by omega)]
        omega
theorem sumN_ge {f : Nat → Nat} {v : Nat} : ∀ n, (if v < n then f v else 0) ≤ sumN n f
  | 0 => Nat.zero_le _
  | n + 1 => by
    have ih := sumN_ge (f := f) (v := v) n
    show _ ≤ sumN n f + f n
    by_cases e : v = n
    · subst e
      rw [if_pos (Nat.lt_succ_self _)]
      omega
    · by_cases z : v < n
      · rw [if_pos z] at ih
        rw [if_pos (by omega)]
        omega
      · rw [if_neg (by omega)]
        omega
theorem nI_ex {A x y B : Nat} (h1 : x ≤ A) (h2 : A + y = B + x) : nI A - nI x + nI y = nI B := by
  rw [pk_sub h1, nI_add]
  congr 1
  omega
theorem wM_bo {D : DT} {i k d : Nat} {u v : Int32} {s : WS} (hu : ¬ u = nI k) (hv : ¬ v = nI k) : wM (Dbo D i u) d k s = wM (Dbo D i v) d k s := by
  show wS (dsd D) (dsk D) (tbit (dlo D)) d k (dns D) (wB (dbd D) (dbo (Dbo D i u)) (dbw D) d k (dnb D) s) = wS (dsd D) (dsk D) (tbit (dlo D)) d k (dns D) (wB (dbd D) (dbo (Dbo D i v)) (dbw D) d k (dnb D) s)
  rw [wB_cong (bd' := dbd D) (bo' := dbo (Dbo D i v)) (bw' := dbw D) (dnb D) (fun j hj => ⟨rfl, by
    by_cases z : j = i
    · have e1 : dbo (Dbo D i u) j = u := if_pos z
      have e2 : dbo (Dbo D i v) j = v := if_pos z
      rw [e1, e2]
      exact ⟨fun y => absurd y.2 hu, fun y => absurd y.2 hv⟩
    · have e1 : dbo (Dbo D i u) j = dbo D j := if_neg z
      have e2 : dbo (Dbo D i v) j = dbo D j := if_neg z
      rw [e1, e2]⟩)]
theorem wM_bd {D : DT} {i k d : Nat} {u : Int32} {s : WS} (hk : ¬ dbo D i = nI k) : wM (Dbd D i u) d k s = wM D d k s := by
  show wS (dsd D) (dsk D) (tbit (dlo D)) d k (dns D) (wB (dbd (Dbd D i u)) (dbo D) (dbw D) d k (dnb D) s) = wS (dsd D) (dsk D) (tbit (dlo D)) d k (dns D) (wB (dbd D) (dbo D) (dbw D) d k (dnb D) s)
  rw [wB_cong (bd' := dbd D) (bo' := dbo D) (bw' := dbw D) (dnb D) (fun j hj => ⟨rfl, by
    by_cases z : j = i
    · subst z
      exact ⟨fun y => absurd y.2 hk, fun y => absurd y.2 hk⟩
    · have e1 : dbd (Dbd D i u) j = dbd D j := if_neg z
      rw [e1]⟩)]
theorem bear_val {D : DT} {i v : Nat} (hv : v < 8) (hn : dnc D ≤ 8) : nI (thr (Dbo D i (-1))) - nI (if v < dnc D then av (WE (Dbo D i (-1)) 23 v) 4 else 0) + nI (if v < dnc D then av (WE (Dbo D i (nI v)) 23 v) 4 else 0) = nI (thr (Dbo D i (nI v))) := by
  refine nI_ex (sumN_ge (f := fun k => av (WE (Dbo D i (-1)) 23 k) 4) (dnc D)) ?_
  refine sumN_1 (f := fun k => av (WE (Dbo D i (-1)) 23 k) 4) (g := fun k => av (WE (Dbo D i (nI v)) 23 k) 4) (dnc D) (fun k hk hne => ?_)
  show av (WE (Dbo D i (-1)) 23 k) 4 = av (WE (Dbo D i (nI v)) 23 k) 4
  rw [WE_cong (D := Dbo D i (nI v)) (D' := Dbo D i (-1)) (k := k) rfl rfl (fun j s _ => wM_bo (fun z => nI_nm1 (d := k) (by omega) z.symm) (nI_ne (by omega) (by omega) (Ne.symm hne)))]
theorem when_val {D : DT} {i c : Nat} {u : Int32} (hc : c < 8) (hn : dnc D ≤ 8) (hi : dbo D i = nI c) : nI (thr D) - nI (if c < dnc D then av (WE D 23 c) 4 else 0) + nI (if c < dnc D then av (WE (Dbd D i u) 23 c) 4 else 0) = nI (thr (Dbd D i u)) := by
  refine nI_ex (sumN_ge (f := fun k => av (WE D 23 k) 4) (dnc D)) ?_
  refine sumN_1 (f := fun k => av (WE D 23 k) 4) (g := fun k => av (WE (Dbd D i u) 23 k) 4) (dnc D) (fun k hk hne => ?_)
  show av (WE D 23 k) 4 = av (WE (Dbd D i u) 23 k) 4
  rw [WE_cong (D := D) (D' := Dbd D i u) (k := k) rfl rfl (fun j s _ => wM_bd (by rw [hi]; exact nI_ne (by omega) (by omega) (Ne.symm hne)))]
theorem c_choose {r : Nat → Int32} {n : Nat} {h : HP} (h1 : h.1 50 1 = (chs r n).1) (h2 : h.1 50 2 = (chs r n).2) : ∃ h', f_Pl_choose (nI n) (r n) h = some h' ∧ h'.1 50 1 = (chs r (n + 1)).1 ∧ h'.1 50 2 = (chs r (n + 1)).2 ∧ FR [50] h h' := by
  have e : chs r (n + 1) = if r n ≤ (chs r n).2 then chs r n else (nI n, r n) := rfl
  unfold f_Pl_choose
  simp only [ltt_s, rI, h2]
  rw [e]
  by_cases z : r n ≤ (chs r n).2
  · rw [if_pos z, if_pos z]
    exact ⟨h, rfl, h1, h2, FR.rf⟩
  · rw [if_neg z, if_neg z]
    exact ⟨_, rfl, by simp [rd_sI], by simp [rd_sI], (FR.rf.s (by decide)).s (by decide)⟩
/-- the cell b may change at place i alone -/
def F1 (b i : Nat) (h h' : HP) : Prop := h'.2.2 = h.2.2 ∧ (∀ a, a ∉ scr → a ≠ 34 → a ≠ b → h'.1 a = h.1 a) ∧ h'.1 34 = h.1 34 ∧ ∀ j, j ≠ i → h'.1 b j = h.1 b j
theorem F1.rf {b i : Nat} {h : HP} : F1 b i h h := ⟨rfl, fun _ _ _ _ => rfl, rfl, fun _ _ => rfl⟩
theorem F1.tr {b i : Nat} {h h' h'' : HP} (x : F1 b i h h') (y : F1 b i h' h'') : F1 b i h h'' := ⟨y.1.trans x.1, fun a h1 h2 h3 => (y.2.1 a h1 h2 h3).trans (x.2.1 a h1 h2 h3), y.2.2.1.trans x.2.2.1, fun j hj => (y.2.2.2 j hj).trans (x.2.2.2 j hj)⟩
theorem F1.w {b i : Nat} {v : Int32} {h : HP} (hb : b ≠ 34) : F1 b i h (sI h b i v) := ⟨rfl, fun a _ _ h3 => sI_na h3, sI_na (Ne.symm hb), fun j hj => sI_nj hj⟩
theorem F1.c {b i : Nat} {cs : List Nat} {h h' : HP} (f : FR cs h h') (hs : ∀ q, q ∈ cs → q ∈ scr) (h34 : 34 ∉ cs) (hb : b ∉ cs) : F1 b i h h' := ⟨by rw [f.1], fun a h1 _ _ => f.2 a (fun z => h1 (hs a z)), f.2 34 h34, fun j _ => by rw [f.2 b hb]⟩
theorem F1.end {b i : Nat} {h h' : HP} (x : F1 b i h h') : SF h (sI h' b i (h.1 b i)) ∨ b = 34 := by
  by_cases hb : b = 34
  · exact Or.inr hb
  · refine Or.inl ⟨x.1, fun a h1 h2 => ?_, ?_, ?_, ?_⟩
    · by_cases z : a = b
      · subst z
        funext j
        rw [rd_sI]
        by_cases y : j = i
        · subst y; simp
        · simp [y, x.2.2.2 j y]
      · rw [sI_na z]
        exact x.2.1 a h1 h2 z
    · rw [sI_na (Ne.symm hb), x.2.2.1]
    · rw [sI_na (Ne.symm hb), x.2.2.1]
    · rw [sI_na (Ne.symm hb), x.2.2.1]
theorem l_tc {D : DT} {i : Nat} {v2 : Int32} (hi : i < dnb D) : ∀ (fu v : Nat) (x : Int32) (h : HP), CD (Dbo D i x) h → h.2.2 = 60 → v ≤ 8 → 8 < v + fu → h.1 50 1 = (chs (fun v => nI (thr (Dbo D i (nI v)))) v).1 → h.1 50 2 = (chs (fun v => nI (thr (Dbo D i (nI v)))) v).2 → ∃ w h', lp_Pl_tryCamels_36 (nI (thr (Dbo D i (-1)))) v2 (nI i) fu (nI v) h = some (w, h') ∧ h'.1 50 1 = (chs (fun v => nI (thr (Dbo D i (nI v)))) 8).1 ∧ h'.1 50 2 = (chs (fun v => nI (thr (Dbo D i (nI v)))) 8).2 ∧ F1 64 i h h' := by
  intro fu
  induction fu with
  | zero => intro v x h _ _ h1 h2; omega
  | succ fu ih =>
    intro v x h hc h60 hv hf g1 g2
    have b1 : dnc D ≤ 8 := hc.2.2.1
    have b2 : dnb D ≤ 10 := hc.2.2.2.1
    have q : (8 ≤ nI v) ↔ 8 ≤ v := nI_leI (a := 8) (by omega) (by omega)
    rw [lp_Pl_tryCamels_36]
    simp only [q]
    by_cases he : 8 ≤ v
    · have e : v = 8 := by omega
      subst e
      rw [if_pos he]
      exact ⟨_, h, rfl, g1, g2, F1.rf⟩
    · rw [if_neg he]
      have hb : inb (nI i) 10 = true := inb_lit (by omega) (by omega)
      have hil : i < 2 ^ 31 := by omega
      simp only [hb, ckk_t, ltt_s, wA_nI hil]
      have c1 : CD (Dbo D i (-1)) (sI h 64 i (-1)) := by rw [← Dbo_2 (u := x)]; exact hc.bo h60
      obtain ⟨h2, e2, f2⟩ := c_broughtBy (k := v) c1 (by omega)
      have s2 : SF (sI h 64 i (-1)) h2 := c_sf f2
      have c2 : CD (Dbo D i (nI v)) (sI h2 64 i (nI v)) := by rw [← Dbo_2 (u := -1)]; exact (c1.sf h60 s2).bo (s2.1.trans h60)
      obtain ⟨h3, e3, f3⟩ := c_broughtBy (k := v) c2 (by omega)
      have s3 : SF (sI h2 64 i (nI v)) h3 := c_sf f3
      have k50 : h3.1 50 = h.1 50 := by rw [f3.2 50 (by decide), sI_na (by decide), f2.2 50 (by decide), sI_na (by decide)]
      obtain ⟨h4, e4, p4, p5, f4⟩ := c_choose (r := fun v => nI (thr (Dbo D i (nI v)))) (n := v) (h := h3) (by rw [k50]; exact g1) (by rw [k50]; exact g2)
      have ev := bear_val (D := D) (i := i) (v := v) (by omega) b1
      rw [show f_Cv_broughtBy (nI v) (sI h 64 i (-1)) = some (nI (if v < dnc D then av (WE (Dbo D i (-1)) 23 v) 4 else 0), h2) from e2, bd2_s, show f_Cv_broughtBy (nI v) (sI h2 64 i (nI v)) = some (nI (if v < dnc D then av (WE (Dbo D i (nI v)) 23 v) 4 else 0), h3) from e3, bd2_s, ev, e4, bd1_s, nI_1]
      have s4 : SF h3 h4 := SF.ofs f4 (by decide) (by decide)
      have t60 : h3.2.2 = 60 := s3.1.trans (s2.1.trans h60)
      obtain ⟨w, h', r1, r2, r3, r4⟩ := ih (v + 1) (nI v) h4 ((c2.sf (s2.1.trans h60) s3).sf t60 s4) (s4.1.trans t60) (by omega) (by omega) p4 p5
      exact ⟨w, h', r1, r2, r3, (((((F1.w (by decide)).tr (F1.c f2 (by decide) (by decide) (by decide))).tr (F1.w (by decide))).tr (F1.c f3 (by decide) (by decide) (by decide))).tr (F1.c f4 (by decide) (by decide) (by decide))).tr r4⟩
theorem c_tryCamels {D : DT} {h : HP} {i : Nat} (t : QS D h) (hi : i < dnb D) : ∃ h', f_Pl_tryCamels (nI i) h = some h' ∧ h'.1 50 1 = (chs (fun v => nI (thr (Dbo D i (nI v)))) 8).1 ∧ h'.1 50 2 = (chs (fun v => nI (thr (Dbo D i (nI v)))) 8).2 ∧ SF h h' := by
  have h60 : h.2.2 = 60 := t.2.2.2.2.2.2.1
  have b2 := t.1.2.2.2.1
  have hb : inb (nI i) 10 = true := inb_lit (by omega) (by omega)
  have hil : i < 2 ^ 31 := by omega
  have c1 : CD (Dbo D i (-1)) (sI h 64 i (-1)) := t.1.bo h60
  obtain ⟨h2, e2, f2⟩ := c_inAll (w := 4) c1 (by omega) (by omega)
  have s2 : SF (sI h 64 i (-1)) h2 := c_sf f2
  have s3 : SF h2 (sI (sI h2 50 1 (-1)) 50 2 (-1)) := SF.ofs (cs := [50]) ((FR.rf.s (by decide)).s (by decide)) (by decide) (by decide)
  obtain ⟨w, h', r1, r2, r3, r4⟩ := l_tc (v2 := h.1 64 i) hi 400 0 (-1) _ ((c1.sf h60 s2).sf (s2.1.trans h60) s3) (s3.1.trans (s2.1.trans h60)) (by omega) (by omega) (by simp [rd_sI, chs]) (by simp [rd_sI, chs])
  have F : F1 64 i h h' := (((F1.w (by decide)).tr (F1.c f2 (by decide) (by decide) (by decide))).tr (F1.c (cs := [50]) ((FR.rf.s (by decide)).s (by decide)) (by decide) (by decide) (by decide))).tr r4
  refine ⟨sI h' 64 i (h.1 64 i), ?_, by rw [sI_na (by decide)]; exact r2, by rw [sI_na (by decide)]; exact r3, F.end.resolve_right (by decide)⟩
  unfold f_Pl_tryCamels f_Pl_beginChoice
  simp only [hb, ckk_t, ltt_s, rA_nI hil, wA_nI hil]
  rw [show f_Cv_inAll 4 (sI h 64 i (-1)) = some (nI (thr (Dbo D i (-1))), h2) from e2, bd2_s, bd1_s, show lp_Pl_tryCamels_36 (nI (thr (Dbo D i (-1)))) (h.1 64 i) (nI i) 400 0 _ = _ from r1, bd2_s]
theorem l_td {D : DT} {i c : Nat} {v2 : Int32} (hi : i < dnb D) (hc8 : c < 8) (hbo : dbo D i = nI c) : ∀ (fu v : Nat) (x : Int32) (h : HP), CD (Dbd D i x) h → h.2.2 = 60 → v ≤ 24 → 24 < v + fu → h.1 50 1 = (chs (fun v => nI (thr (Dbd D i (nI v)))) v).1 → h.1 50 2 = (chs (fun v => nI (thr (Dbd D i (nI v)))) v).2 → ∃ w h', lp_Pl_tryDays_56 (nI (thr D) - nI (if c < dnc D then av (WE D 23 c) 4 else 0)) (nI c) v2 (nI i) fu (nI v) h = some (w, h') ∧ h'.1 50 1 = (chs (fun v => nI (thr (Dbd D i (nI v)))) 24).1 ∧ h'.1 50 2 = (chs (fun v => nI (thr (Dbd D i (nI v)))) 24).2 ∧ F1 62 i h h' := by
  intro fu
  induction fu with
  | zero => intro v x h _ _ h1 h2; omega
  | succ fu ih =>
    intro v x h hc h60 hv hf g1 g2
    have b1 : dnc D ≤ 8 := hc.2.2.1
    have b2 : dnb D ≤ 10 := hc.2.2.2.1
    have q : (24 ≤ nI v) ↔ 24 ≤ v := nI_leI (a := 24) (by omega) (by omega)
    rw [lp_Pl_tryDays_56]
    simp only [q]
    by_cases he : 24 ≤ v
    · have e : v = 24 := by omega
      subst e
      rw [if_pos he]
      exact ⟨_, h, rfl, g1, g2, F1.rf⟩
    · rw [if_neg he]
      have hb : inb (nI i) 10 = true := inb_lit (by omega) (by omega)
      have hil : i < 2 ^ 31 := by omega
      simp only [hb, ckk_t, ltt_s, wA_nI hil]
      have c2 : CD (Dbd D i (nI v)) (sI h 62 i (nI v)) := by rw [← Dbd_2 (u := x)]; exact hc.bd h60
      obtain ⟨h3, e3, f3⟩ := c_broughtBy (k := c) c2 (by omega)
      have s3 : SF (sI h 62 i (nI v)) h3 := c_sf f3
      have k50 : h3.1 50 = h.1 50 := by rw [f3.2 50 (by decide), sI_na (by decide)]
      obtain ⟨h4, e4, p4, p5, f4⟩ := c_choose (r := fun v => nI (thr (Dbd D i (nI v)))) (n := v) (h := h3) (by rw [k50]; exact g1) (by rw [k50]; exact g2)
      have ev := when_val (D := D) (i := i) (u := nI v) hc8 b1 hbo
      rw [show f_Cv_broughtBy (nI c) (sI h 62 i (nI v)) = some (nI (if c < dnc D then av (WE (Dbd D i (nI v)) 23 c) 4 else 0), h3) from e3, bd2_s, ev, e4, bd1_s, nI_1]
      have s4 : SF h3 h4 := SF.ofs f4 (by decide) (by decide)
      have t60 : h3.2.2 = 60 := s3.1.trans h60
      obtain ⟨w, h', r1, r2, r3, r4⟩ := ih (v + 1) (nI v) h4 ((c2.sf h60 s3).sf t60 s4) (s4.1.trans t60) (by omega) (by omega) p4 p5
      exact ⟨w, h', r1, r2, r3, (((F1.w (by decide)).tr (F1.c f3 (by decide) (by decide) (by decide))).tr (F1.c f4 (by decide) (by decide) (by decide))).tr r4⟩
theorem c_tryDays {D : DT} {h : HP} {i : Nat} (t : QS D h) (hi : i < dnb D) : ∃ h', f_Pl_tryDays (nI i) h = some h' ∧ h'.1 50 1 = (chs (fun v => nI (thr (Dbd D i (nI v)))) 24).1 ∧ h'.1 50 2 = (chs (fun v => nI (thr (Dbd D i (nI v)))) 24).2 ∧ SF h h' := by
  have h60 : h.2.2 = 60 := t.2.2.2.2.2.2.1
  have b2 := t.1.2.2.2.1
  have hb : inb (nI i) 10 = true := inb_lit (by omega) (by omega)
  have hil : i < 2 ^ 31 := by omega
  obtain ⟨c, hc8, hbo⟩ := t.2.2.2.2.2.1 i hi
  obtain ⟨d1, d2, d3, d4⟩ := t.1.2.2.2.2.2.1 i hi
  obtain ⟨h2, e2, f2⟩ := c_inAll (w := 4) t.1 (by omega) (by omega)
  have s2 : SF h h2 := c_sf f2
  obtain ⟨h3, e3, f3⟩ := c_broughtBy (k := c) (t.1.sf h60 s2) (by omega)
  have s3 : SF h2 h3 := c_sf f3
  have s4 : SF h3 (sI (sI h3 50 1 (-1)) 50 2 (-1)) := SF.ofs (cs := [50]) ((FR.rf.s (by decide)).s (by decide)) (by decide) (by decide)
  have s := (s2.tr s3).tr s4
  have c4 : CD (Dbd D i (dbd D i)) (sI (sI h3 50 1 (-1)) 50 2 (-1)) := by rw [Dbd_self]; exact t.1.sf h60 s
  obtain ⟨w, h', r1, r2, r3, r4⟩ := l_td (v2 := h.1 62 i) hi hc8 hbo 400 0 _ _ c4 (s.1.trans h60) (by omega) (by omega) (by simp [rd_sI, chs]) (by simp [rd_sI, chs])
  have F : F1 62 i h h' := (((F1.c f2 (by decide) (by decide) (by decide)).tr (F1.c f3 (by decide) (by decide) (by decide))).tr (F1.c (cs := [50]) ((FR.rf.s (by decide)).s (by decide)) (by decide) (by decide) (by decide))).tr r4
  refine ⟨sI h' 62 i (h.1 62 i), ?_, by rw [sI_na (by decide)]; exact r2, by rw [sI_na (by decide)]; exact r3, F.end.resolve_right (by decide)⟩
  unfold f_Pl_tryDays f_Pl_beginChoice
  simp only [hb, ckk_t, ltt_s, rA_nI hil, wA_nI hil]
  rw [d2, hbo, show f_Cv_inAll 4 h = some (nI (thr D), h2) from e2, bd2_s, e3, bd2_s, bd1_s, show lp_Pl_tryDays_56 _ (nI c) (h.1 62 i) (nI i) 400 0 _ = _ from r1, bd2_s]
theorem l_mbear {D : DT} {i : Nat} {v4 a2 : Int32} (hi : i < dnb D) : ∀ (fu v : Nat) (x : Int32) (h : HP), MD (Dbo D i x) h → v ≤ 8 → 8 < v + fu → ∃ w y h', lp_Mo_bearOf_20 v4 (nI i) a2 fu (nI v) (chs (fun v => nI (thr (Dbo D i (nI v)))) v).2 (chs (fun v => nI (thr (Dbo D i (nI v)))) v).1 h = some (w, (chs (fun v => nI (thr (Dbo D i (nI v)))) 8).2, (chs (fun v => nI (thr (Dbo D i (nI v)))) 8).1, h') ∧ MD (Dbo D i y) h' ∧ SF h h' := by
  intro fu
  induction fu with
  | zero => intro v x h _ h1 h2; omega
  | succ fu ih =>
    intro v x h hm hv hf
    have b2 : dnb D ≤ 10 := hm.2.2.2.1
    have q : (8 ≤ nI v) ↔ 8 ≤ v := nI_leI (a := 8) (by omega) (by omega)
    rw [lp_Mo_bearOf_20]
    simp only [q]
    by_cases he : 8 ≤ v
    · have e : v = 8 := by omega
      subst e
      rw [if_pos he]
      exact ⟨_, x, h, rfl, hm, SF.rf⟩
    · rw [if_neg he]
      have hb : inb (nI i) 11 = true := inb_lit (by omega) (by omega)
      have hil : i < 2 ^ 31 := by omega
      simp only [hb, ckk_t, ltt_s, wA_nI hil]
      have m1 : MD (Dbo D i (nI v)) (sI h 29 i (nI v)) := by rw [← Dbo_2 (u := x)]; exact hm.bo (c := v) (by omega) rfl
      obtain ⟨h2, e2, r2, k2⟩ := m_runs m1
      have m2 := m1.keep k2
      have e3 : f_Mo_throughNow h2 = some (nI (thr (Dbo D i (nI v))), h2) := m_throughNow m2.1 m2.2.2.1 r2.1
      rw [e2, bd1_s, e3, bd2_s, nI_1]
      obtain ⟨w, y, h', p1, p2, p3⟩ := ih (v + 1) (nI v) h2 m2 (by omega) (by omega)
      refine ⟨w, y, h', ?_, p2, ((SF.ofs (cs := [29]) (FR.rf.s (by decide)) (by decide) (by decide)).tr k2.sf).tr p3⟩
      rw [← p1]
      have e : chs (fun v => nI (thr (Dbo D i (nI v)))) (v + 1) = if nI (thr (Dbo D i (nI v))) ≤ (chs (fun v => nI (thr (Dbo D i (nI v)))) v).2 then chs (fun v => nI (thr (Dbo D i (nI v)))) v else (nI v, nI (thr (Dbo D i (nI v)))) := rfl
      rw [e]
      by_cases z : nI (thr (Dbo D i (nI v))) ≤ (chs (fun v => nI (thr (Dbo D i (nI v)))) v).2
      · rw [if_pos z, if_pos z, if_pos z, bd1_s, bd1_s]
      · rw [if_neg z, if_neg z, if_neg z, bd1_s, bd1_s]
theorem qm_bear {D : DT} {h0 : HP} {i : Nat} {a : Int32} (t : QS D h0) (hi : i < dnb D) : QM D h0 (f_Mo_bearOf (nI i) a) (if a = 0 then (chs (fun v => nI (thr (Dbo D i (nI v)))) 8).1 else (chs (fun v => nI (thr (Dbo D i (nI v)))) 8).2) := fun h hs => by
  have b2 := t.1.2.2.2.1
  obtain ⟨h1, e1, m1, s1⟩ := m_asTold (t.sf hs)
  have hb : inb (nI i) 11 = true := inb_lit (by omega) (by omega)
  have hil : i < 2 ^ 31 := by omega
  obtain ⟨g1, g2, g3, g4, c, hc, g5⟩ := m1.2.2.2.2.2.2.2.1 i hi
  obtain ⟨w, y, h2, e2, m2, s2⟩ := l_mbear (v4 := dbo D i) (a2 := a) hi 400 0 (dbo D i) h1 (by rw [Dbo_self]; exact m1) (by omega) (by omega)
  have m3 : MD D (sI h2 29 i (dbo D i)) := by
    have e := Dbo_2 (D := D) (i := i) (u := y) (v := dbo D i)
    rw [Dbo_self] at e
    have m := m2.bo (c := c) (i := i) (v := dbo D i)
    rw [e] at m
    exact m hc g5
  refine ⟨sI h2 29 i (dbo D i), ?_, ((hs.tr s1).tr s2).tr (SF.ofs (cs := [29]) (FR.rf.s (by decide)) (by decide) (by decide)), m3.mc⟩
  unfold f_Mo_bearOf
  rw [e1, bd1_s]
  simp only [hb, ckk_t, ltt_s, rA_nI hil, wA_nI hil, g2]
  rw [show lp_Mo_bearOf_20 (dbo D i) (nI i) a 400 0 (-1) (-1) h1 = _ from e2, bd4_s]
  by_cases z : a = 0
  · rw [if_pos z, if_pos z]
  · rw [if_neg z, if_neg z]
theorem qc_bear {D : DT} {h0 : HP} {i : Nat} {a : Int32} (t : QS D h0) (hi : i < dnb D) (ha : inb a 2 = true) : Q h0 (f_CS_bear (nI i) a) (if a = 0 then (chs (fun v => nI (thr (Dbo D i (nI v)))) 8).1 else (chs (fun v => nI (thr (Dbo D i (nI v)))) 8).2) := fun h hs => by
  have t' := t.sf hs
  have b2 := t.1.2.2.2.1
  obtain ⟨h1, e1, p1, p2, s1⟩ := c_tryCamels t' hi
  refine ⟨h1, ?_, hs.tr s1⟩
  unfold f_CS_bear
  rw [c_isBale t'.1, bd2_s, bI_if, if_pos (inb_lit hi (by omega)), two_c, if_pos ha, e1, bd1_s]
  simp only [ltt_s, rI, p1, p2]
  by_cases z : a = 0
  · rw [if_pos z, if_pos z]
  · rw [if_neg z, if_neg z]
theorem o_bear : op_bear Inv := fun a1 a2 => Q.op (fun h0 hi => by
  obtain ⟨D, t⟩ := hi.qs
  have b1 := t.1.2.2.2.1
  by_cases z1 : inb a1 (dnb D) = true
  · by_cases z2 : inb a2 2 = true
    · obtain ⟨k, k1, k2⟩ := (inb_iff (by omega)).mp z1
      refine ⟨_, by rw [k2]; exact qc_bear t k1 z2, fun h hs => ?_⟩
      obtain ⟨h1, e1, m1, s1⟩ := m_isBale (a := a1) (t.sf hs)
      unfold f_Mo_bear
      rw [e1, bd2_s, bI_if, if_pos z1, m_isTwo, bd2_s, bI_if, if_pos z2, bd2_id, k2]
      exact (qm_bear t k1).q h1 (hs.tr s1)
    · refine ⟨-2, fun h hs => ⟨h, ?_, hs⟩, fun h hs => ?_⟩
      · unfold f_CS_bear
        rw [c_isBale (t.sf hs).1, bd2_s, bI_if, if_pos z1, two_c, if_neg z2]
      · obtain ⟨h1, e1, m1, s1⟩ := m_isBale (a := a1) (t.sf hs)
        refine ⟨h1, ?_, hs.tr s1⟩
        unfold f_Mo_bear
        rw [e1, bd2_s, bI_if, if_pos z1, m_isTwo, bd2_s, bI_if, if_neg z2]
  · refine ⟨-2, fun h hs => ⟨h, ?_, hs⟩, fun h hs => ?_⟩
    · unfold f_CS_bear
      rw [c_isBale (t.sf hs).1, bd2_s, bI_if, if_neg z1]
    · obtain ⟨h1, e1, m1, s1⟩ := m_isBale (a := a1) (t.sf hs)
      refine ⟨h1, ?_, hs.tr s1⟩
      unfold f_Mo_bear
      rw [e1, bd2_s, bI_if, if_neg z1])
theorem l_mwhen {D : DT} {i : Nat} {v4 a2 : Int32} (hi : i < dnb D) : ∀ (fu v : Nat) (x : Int32) (h : HP), MD (Dbd D i x) h → v ≤ 24 → 24 < v + fu → ∃ w y h', lp_Mo_whenOf_20 v4 (nI i) a2 fu (nI v) (chs (fun v => nI (thr (Dbd D i (nI v)))) v).2 (chs (fun v => nI (thr (Dbd D i (nI v)))) v).1 h = some (w, (chs (fun v => nI (thr (Dbd D i (nI v)))) 24).2, (chs (fun v => nI (thr (Dbd D i (nI v)))) 24).1, h') ∧ MD (Dbd D i y) h' ∧ SF h h' := by
  intro fu
  induction fu with
  | zero => intro v x h _ h1 h2; omega
  | succ fu ih =>
    intro v x h hm hv hf
    have b2 : dnb D ≤ 10 := hm.2.2.2.1
    have q : (24 ≤ nI v) ↔ 24 ≤ v := nI_leI (a := 24) (by omega) (by omega)
    rw [lp_Mo_whenOf_20]
    simp only [q]
    by_cases he : 24 ≤ v
    · have e : v = 24 := by omega
      subst e
      rw [if_pos he]
      exact ⟨_, x, h, rfl, hm, SF.rf⟩
    · rw [if_neg he]
      have hb : inb (nI i) 11 = true := inb_lit (by omega) (by omega)
      have hil : i < 2 ^ 31 := by omega
      simp only [hb, ckk_t, ltt_s, wA_nI hil]
      have m1 : MD (Dbd D i (nI v)) (sI h 27 i (nI v)) := by rw [← Dbd_2 (u := x)]; exact hm.bd
      obtain ⟨h2, e2, r2, k2⟩ := m_runs m1
      have m2 := m1.keep k2
      have e3 : f_Mo_throughNow h2 = some (nI (thr (Dbd D i (nI v))), h2) := m_throughNow m2.1 m2.2.2.1 r2.1
      rw [e2, bd1_s, e3, bd2_s, nI_1]
      obtain ⟨w, y, h', p1, p2, p3⟩ := ih (v + 1) (nI v) h2 m2 (by omega) (by omega)
      refine ⟨w, y, h', ?_, p2, ((SF.ofs (cs := [27]) (FR.rf.s (by decide)) (by decide) (by decide)).tr k2.sf).tr p3⟩
      rw [← p1]
      have e : chs (fun v => nI (thr (Dbd D i (nI v)))) (v + 1) = if nI (thr (Dbd D i (nI v))) ≤ (chs (fun v => nI (thr (Dbd D i (nI v)))) v).2 then chs (fun v => nI (thr (Dbd D i (nI v)))) v else (nI v, nI (thr (Dbd D i (nI v)))) := rfl
      rw [e]
      by_cases z : nI (thr (Dbd D i (nI v))) ≤ (chs (fun v => nI (thr (Dbd D i (nI v)))) v).2
      · rw [if_pos z, if_pos z, if_pos z, bd1_s, bd1_s]
      · rw [if_neg z, if_neg z, if_neg z, bd1_s, bd1_s]
theorem qm_when {D : DT} {h0 : HP} {i : Nat} {a : Int32} (t : QS D h0) (hi : i < dnb D) : QM D h0 (f_Mo_whenOf (nI i) a) (if a = 0 then (chs (fun v => nI (thr (Dbd D i (nI v)))) 24).1 else (chs (fun v => nI (thr (Dbd D i (nI v)))) 24).2) := fun h hs => by
  have b2 := t.1.2.2.2.1
  obtain ⟨h1, e1, m1, s1⟩ := m_asTold (t.sf hs)
  have hb : inb (nI i) 11 = true := inb_lit (by omega) (by omega)
  have hil : i < 2 ^ 31 := by omega
  obtain ⟨g1, g2, g3, g4, c, hc, g5⟩ := m1.2.2.2.2.2.2.2.1 i hi
  obtain ⟨w, y, h2, e2, m2, s2⟩ := l_mwhen (v4 := dbd D i) (a2 := a) hi 400 0 (dbd D i) h1 (by rw [Dbd_self]; exact m1) (by omega) (by omega)
  have m3 : MD D (sI h2 27 i (dbd D i)) := by
    have e := Dbd_2 (D := D) (i := i) (u := y) (v := dbd D i)
    rw [Dbd_self] at e
    have m := m2.bd (i := i) (v := dbd D i)
    rw [e] at m
    exact m 
  refine ⟨sI h2 27 i (dbd D i), ?_, ((hs.tr s1).tr s2).tr (SF.ofs (cs := [27]) (FR.rf.s (by decide)) (by decide) (by decide)), m3.mc⟩
  unfold f_Mo_whenOf
  rw [e1, bd1_s]
  simp only [hb, ckk_t, ltt_s, rA_nI hil, wA_nI hil, g1]
  rw [show lp_Mo_whenOf_20 (dbd D i) (nI i) a 400 0 (-1) (-1) h1 = _ from e2, bd4_s]
  by_cases z : a = 0
  · rw [if_pos z, if_pos z]
  · rw [if_neg z, if_neg z]
theorem qc_when {D : DT} {h0 : HP} {i : Nat} {a : Int32} (t : QS D h0) (hi : i < dnb D) (ha : inb a 2 = true) : Q h0 (f_CS_when (nI i) a) (if a = 0 then (chs (fun v => nI (thr (Dbd D i (nI v)))) 24).1 else (chs (fun v => nI (thr (Dbd D i (nI v)))) 24).2) := fun h hs => by
  have t' := t.sf hs
  have b2 := t.1.2.2.2.1
  obtain ⟨h1, e1, p1, p2, s1⟩ := c_tryDays t' hi
  refine ⟨h1, ?_, hs.tr s1⟩
  unfold f_CS_when
  rw [c_isBale t'.1, bd2_s, bI_if, if_pos (inb_lit hi (by omega)), two_c, if_pos ha, e1, bd1_s]
  simp only [ltt_s, rI, p1, p2]
  by_cases z : a = 0
  · rw [if_pos z, if_pos z]
  · rw [if_neg z, if_neg z]
theorem o_when : op_when Inv := fun a1 a2 => Q.op (fun h0 hi => by
  obtain ⟨D, t⟩ := hi.qs
  have b1 := t.1.2.2.2.1
  by_cases z1 : inb a1 (dnb D) = true
  · by_cases z2 : inb a2 2 = true
    · obtain ⟨k, k1, k2⟩ := (inb_iff (by omega)).mp z1
      refine ⟨_, by rw [k2]; exact qc_when t k1 z2, fun h hs => ?_⟩
      obtain ⟨h1, e1, m1, s1⟩ := m_isBale (a := a1) (t.sf hs)
      unfold f_Mo_when
      rw [e1, bd2_s, bI_if, if_pos z1, m_isTwo, bd2_s, bI_if, if_pos z2, bd2_id, k2]
      exact (qm_when t k1).q h1 (hs.tr s1)
    · refine ⟨-2, fun h hs => ⟨h, ?_, hs⟩, fun h hs => ?_⟩
      · unfold f_CS_when
        rw [c_isBale (t.sf hs).1, bd2_s, bI_if, if_pos z1, two_c, if_neg z2]
      · obtain ⟨h1, e1, m1, s1⟩ := m_isBale (a := a1) (t.sf hs)
        refine ⟨h1, ?_, hs.tr s1⟩
        unfold f_Mo_when
        rw [e1, bd2_s, bI_if, if_pos z1, m_isTwo, bd2_s, bI_if, if_neg z2]
  · refine ⟨-2, fun h hs => ⟨h, ?_, hs⟩, fun h hs => ?_⟩
    · unfold f_CS_when
      rw [c_isBale (t.sf hs).1, bd2_s, bI_if, if_neg z1]
    · obtain ⟨h1, e1, m1, s1⟩ := m_isBale (a := a1) (t.sf hs)
      refine ⟨h1, ?_, hs.tr s1⟩
      unfold f_Mo_when
      rw [e1, bd2_s, bI_if, if_neg z1])
