/-! what holds between calls; what lasts; the reference reads what the class has read -/
def TCm (n nc : Nat) (h : HP) : Prop := TC n nc h ∧ h.1 33 0 = nI n ∧ ∀ q, q < n → h.1 32 q = h.1 69 q
def TBm (n nb : Nat) (h : HP) : Prop := TB n nb h ∧ h.1 33 1 = nI n ∧ ∀ q, q < n → h.1 32 (39 + q) = h.1 65 q
def SB (ns : Nat) (h : HP) : Prop := ns ≤ 8 ∧ h.1 60 2 = nI ns ∧ h.1 34 9 = nI ns ∧ ∀ i, i < ns → h.1 26 i = h.1 59 i ∧ h.1 25 i = h.1 58 i ∧ (∃ c, c < 24 ∧ h.1 59 i = nI c) ∧ ∃ c, c < 8 ∧ h.1 58 i = nI c
def NB (m : Nat) (h : HP) : Prop := m ≤ 8 ∧ h.1 49 4 = nI m ∧ h.1 34 34 = nI m ∧ ∀ i, i < m → h.1 8 i = h.1 48 i ∧ h.1 7 i = h.1 47 i ∧ h.1 6 i = h.1 46 i ∧ (∃ c, c < 24 ∧ h.1 48 i = nI c) ∧ ∃ c, c < 8 ∧ h.1 47 i = nI c
def FB (h : HP) : Prop := h.1 71 10 = h.1 34 44
/-- a sheet of the class (object o, items r) and the reference's sheet s -/
def SH (o r s : Nat) (h : HP) : Prop := (h.1 o 1 = -1 ∧ h.1 4 s = 0) ∨ ∃ f z, f < 3 ∧ z ≤ 60 ∧ h.1 o 1 = nI f ∧ h.1 4 s = 1 ∧ h.1 3 s = nI f ∧ h.1 o 2 = nI z ∧ h.1 2 s = nI z ∧ ∀ i, i < 60 → h.1 r i = h.1 1 (60 * s + i)
def HB (h : HP) : Prop := SH 42 41 0 h ∧ SH 40 39 1 h ∧ SH 38 37 2 h ∧ SH 36 35 3 h
def GB (h : HP) : Prop := h.1 54 3 = 0 ∧ h.2.2 = 60
def Inv (h : HP) : Prop := (∃ n nc, TCm n nc h) ∧ (∃ n nb, TBm n nb h) ∧ (∃ ns, SB ns h) ∧ (∃ m, NB m h) ∧ FB h ∧ HB h ∧ GB h
def scr : List Nat := [0, 5, 9, 10, 11, 12, 13, 14, 15, 16, 17, 18, 19, 20, 21, 22, 23, 24, 27, 28, 29, 30, 31, 45, 50, 51, 52, 53, 55, 56, 57]
/-- all that lasts is as it was -/
def SF (h h' : HP) : Prop := h'.2.2 = h.2.2 ∧ (∀ a, a ∉ scr → a ≠ 34 → h'.1 a = h.1 a) ∧ h'.1 34 9 = h.1 34 9 ∧ h'.1 34 34 = h.1 34 34 ∧ h'.1 34 44 = h.1 34 44
theorem SF.rf {h : HP} : SF h h := ⟨rfl, fun _ _ _ => rfl, rfl, rfl, rfl⟩
theorem SF.tr {h h' h'' : HP} (a : SF h h') (b : SF h' h'') : SF h h'' := ⟨b.1.trans a.1, fun q h1 h2 => (b.2.1 q h1 h2).trans (a.2.1 q h1 h2), b.2.2.1.trans a.2.2.1, b.2.2.2.1.trans a.2.2.2.1, b.2.2.2.2.trans a.2.2.2.2⟩
theorem SF.of {cs : List Nat} {h h' : HP} (f : FR cs h h') (hs : ∀ q, q ∈ cs → q ∈ scr ∨ q = 34) (h1 : h'.1 34 9 = h.1 34 9) (h2 : h'.1 34 34 = h.1 34 34) (h3 : h'.1 34 44 = h.1 34 44) : SF h h' := ⟨by rw [f.1], fun a ha hb => f.2 a (fun z => (hs a z).elim ha hb), h1, h2, h3⟩
theorem SF.ofs {cs : List Nat} {h h' : HP} (f : FR cs h h') (hs : ∀ q, q ∈ cs → q ∈ scr) (h34 : 34 ∉ cs) : SF h h' := SF.of f (fun q hq => Or.inl (hs q hq)) (by rw [f.2 34 h34]) (by rw [f.2 34 h34]) (by rw [f.2 34 h34])
theorem MK.sf {h h' : HP} (k : MK h h') : SF h h' := SF.of k.1 (by decide) (k.2 9 (by decide) (by decide) (by decide) (by decide)) (k.2 34 (by decide) (by decide) (by decide) (by decide)) (k.2 44 (by decide) (by decide) (by decide) (by decide))
theorem TCm.fr {n nc : Nat} {h h' : HP} (t : TCm n nc h) (e70 : h'.1 70 = h.1 70) (e69 : h'.1 69 = h.1 69) (e68 : h'.1 68 = h.1 68) (e67 : h'.1 67 = h.1 67) (e33 : h'.1 33 0 = h.1 33 0) (e32 : ∀ q, q < 39 → h'.1 32 q = h.1 32 q) : TCm n nc h' := by
  obtain ⟨⟨t1, t2, t3, t4, t5, t6, t7⟩, t8, t9⟩ := t
  refine ⟨⟨t1, by rw [e70]; exact t2, by rw [e70]; exact t3, by rw [e70, e69]; exact t4, by rw [e70]; exact t5, by rw [e70]; exact t6, fun i hi => by rw [e68, e69, e67]; exact t7 i hi⟩, e33.trans t8, fun q hq => by rw [e69, e32 q (by omega)]; exact t9 q hq⟩
theorem TBm.fr {n nb : Nat} {h h' : HP} (t : TBm n nb h) (e66 : h'.1 66 = h.1 66) (e65 : h'.1 65 = h.1 65) (e64 : h'.1 64 = h.1 64) (e63 : h'.1 63 = h.1 63) (e62 : h'.1 62 = h.1 62) (e33 : h'.1 33 1 = h.1 33 1) (e32 : ∀ q, 39 ≤ q → h'.1 32 q = h.1 32 q) : TBm n nb h' := by
  obtain ⟨⟨t1, t2, t3, t4, t5, t6, t7⟩, t8, t9⟩ := t
  refine ⟨⟨t1, by rw [e66]; exact t2, by rw [e66]; exact t3, by rw [e66, e65]; exact t4, by rw [e66]; exact t5, by rw [e66]; exact t6, fun i hi => by rw [e64, e65, e63, e62]; exact t7 i hi⟩, e33.trans t8, fun q hq => by rw [e65, e32 (39 + q) (by omega)]; exact t9 q hq⟩
theorem SB.fr {ns : Nat} {h h' : HP} (t : SB ns h) (e60 : h'.1 60 = h.1 60) (e59 : h'.1 59 = h.1 59) (e58 : h'.1 58 = h.1 58) (e26 : h'.1 26 = h.1 26) (e25 : h'.1 25 = h.1 25) (e9 : h'.1 34 9 = h.1 34 9) : SB ns h' := by
  obtain ⟨t1, t2, t3, t4⟩ := t
  exact ⟨t1, by rw [e60]; exact t2, e9.trans t3, fun i hi => by rw [e59, e58, e26, e25]; exact t4 i hi⟩
theorem NB.fr {m : Nat} {h h' : HP} (t : NB m h) (e49 : h'.1 49 = h.1 49) (e48 : h'.1 48 = h.1 48) (e47 : h'.1 47 = h.1 47) (e46 : h'.1 46 = h.1 46) (e8 : h'.1 8 = h.1 8) (e7 : h'.1 7 = h.1 7) (e6 : h'.1 6 = h.1 6) (e9 : h'.1 34 34 = h.1 34 34) : NB m h' := by
  obtain ⟨t1, t2, t3, t4⟩ := t
  exact ⟨t1, by rw [e49]; exact t2, e9.trans t3, fun i hi => by rw [e48, e47, e46, e8, e7, e6]; exact t4 i hi⟩
theorem SH.fr {o r s : Nat} {h h' : HP} (t : SH o r s h) (eo : h'.1 o = h.1 o) (er : h'.1 r = h.1 r) (e4 : h'.1 4 s = h.1 4 s) (e3 : h'.1 3 s = h.1 3 s) (e2 : h'.1 2 s = h.1 2 s) (e1 : ∀ i, i < 60 → h'.1 1 (60 * s + i) = h.1 1 (60 * s + i)) : SH o r s h' := by
  rcases t with ⟨t1, t2⟩ | ⟨f, z, t1, t2, t3, t4, t5, t6, t7, t8⟩
  · exact Or.inl ⟨by rw [eo]; exact t1, e4.trans t2⟩
  · exact Or.inr ⟨f, z, t1, t2, by rw [eo]; exact t3, e4.trans t4, e3.trans t5, by rw [eo]; exact t6, e2.trans t7, fun i hi => by rw [er, e1 i hi]; exact t8 i hi⟩
theorem HB.fr {h h' : HP} (t : HB h) (e : ∀ a, a ∈ [42, 41, 40, 39, 38, 37, 36, 35, 4, 3, 2, 1] → h'.1 a = h.1 a) : HB h' := by
  have e4 := e 4 (by decide)
  have e3 := e 3 (by decide)
  have e2 := e 2 (by decide)
  have e1 := e 1 (by decide)
  exact ⟨t.1.fr (e 42 (by decide)) (e 41 (by decide)) (by rw [e4]) (by rw [e3]) (by rw [e2]) (fun _ _ => by rw [e1]), t.2.1.fr (e 40 (by decide)) (e 39 (by decide)) (by rw [e4]) (by rw [e3]) (by rw [e2]) (fun _ _ => by rw [e1]), t.2.2.1.fr (e 38 (by decide)) (e 37 (by decide)) (by rw [e4]) (by rw [e3]) (by rw [e2]) (fun _ _ => by rw [e1]), t.2.2.2.fr (e 36 (by decide)) (e 35 (by decide)) (by rw [e4]) (by rw [e3]) (by rw [e2]) (fun _ _ => by rw [e1])⟩
theorem SF.g {h h' : HP} (k : SF h h') (a : Nat) (h1 : a ∉ scr := by decide) (h2 : a ≠ 34 := by decide) : h'.1 a = h.1 a := k.2.1 a h1 h2
theorem TCm.sf {n nc : Nat} {h h' : HP} (t : TCm n nc h) (k : SF h h') : TCm n nc h' := t.fr (k.g 70) (k.g 69) (k.g 68) (k.g 67) (by rw [k.g 33]) (fun _ _ => by rw [k.g 32])
theorem TBm.sf {n nc : Nat} {h h' : HP} (t : TBm n nc h) (k : SF h h') : TBm n nc h' := t.fr (k.g 66) (k.g 65) (k.g 64) (k.g 63) (k.g 62) (by rw [k.g 33]) (fun _ _ => by rw [k.g 32])
theorem SB.sf {ns : Nat} {h h' : HP} (t : SB ns h) (k : SF h h') : SB ns h' := t.fr (k.g 60) (k.g 59) (k.g 58) (k.g 26) (k.g 25) k.2.2.1
theorem NB.sf {m : Nat} {h h' : HP} (t : NB m h) (k : SF h h') : NB m h' := t.fr (k.g 49) (k.g 48) (k.g 47) (k.g 46) (k.g 8) (k.g 7) (k.g 6) k.2.2.2.1
theorem HB.sf {h h' : HP} (t : HB h) (k : SF h h') : HB h' := t.fr (fun a ha => k.2.1 a (fun z => by
  have : ∀ a, a ∈ [42, 41, 40, 39, 38, 37, 36, 35, 4, 3, 2, 1] → a ∉ scr := by decide
  exact this a ha z) (fun z => by subst z; exact absurd ha (by decide)))
theorem Inv.sf {h h' : HP} (t : Inv h) (k : SF h h') : Inv h' := by
  obtain ⟨⟨n, nc, t1⟩, ⟨n1, nb, t2⟩, ⟨ns, t3⟩, ⟨m, t4⟩, t5, t6, t7, t8⟩ := t
  refine ⟨⟨n, nc, t1.sf k⟩, ⟨n1, nb, t2.sf k⟩, ⟨ns, t3.sf k⟩, ⟨m, t4.sf k⟩, ?_, t6.sf k, ?_, k.1.trans t8⟩
  · unfold FB
    rw [k.g 71, k.2.2.2.2]
    exact t5
  · rw [k.g 54]
    exact t7
/-- the data of a state -/
def DD (h : HP) (nc nb ns : Nat) : DT := (nc, nb, ns, fun i => (h.1 68 i).toNatClampNeg, fun i => (h.1 67 i).toNatClampNeg, h.1 62, h.1 64, fun i => (h.1 63 i).toNatClampNeg, h.1 59, h.1 58, 0)
theorem rng {x : Int32} {u w : Nat} (hu : u < 1000) (hw : w < 1000) (h : (!decide (x < nI u) && !decide (nI w < x)) = true) : ∃ y, u ≤ y ∧ y ≤ w ∧ x = nI y := by
  simp only [Bool.and_eq_true, Bool.not_eq_true', decide_eq_false_iff_not] at h
  obtain ⟨h1, h2⟩ := h
  have e1 : (nI u).toInt = (u : Int) := nI_toInt (by omega)
  have e2 : (nI w).toInt = (w : Int) := nI_toInt (by omega)
  rw [Int32.lt_iff_toInt_lt, e1] at h1
  rw [Int32.lt_iff_toInt_lt, e2] at h2
  obtain ⟨j, j1, j2⟩ := nI_of (x := x) (by
    rw [Int32.lt_iff_toInt_lt]
    have e0 : (0 : Int32).toInt = 0 := by decide
    omega)
  subst j2
  rw [nI_toInt j1] at h1 h2
  exact ⟨j, by omega, by omega, rfl⟩
theorem TC.dat {n nc : Nat} {h : HP} (t : TC n nc h) : nc ≤ 8 ∧ ∀ i, i < nc → ∃ so fg, h.1 68 i = nI so ∧ h.1 67 i = nI fg ∧ so ≤ 2 ∧ 1 ≤ fg ∧ fg ≤ 9 := by
  obtain ⟨t1, t2, t3, t4, t5, t6, t7⟩ := t
  refine ⟨by rw [t5]; split <;> omega, fun i hi => ?_⟩
  by_cases hv : h.1 70 3 = -1
  · rw [hv] at t4
    rw [if_pos hv] at t5
    obtain ⟨a1, a2⟩ := t4.m1 (by omega)
    have k1 := a1 (3 * i + 1) (by omega)
    rw [show (3 * i + 1) % 3 = 1 by omega] at k1
    obtain ⟨y, y1, y2, y3⟩ := rng (u := 49) (w := 57) (by omega) (by omega) k1
    obtain ⟨g1, g2⟩ := t7 i hi
    have e : h.1 67 i = nI (y - 48) := by
      rw [g2, y3]
      exact pk_sub (b := 48) (by omega)
    have e2 : ∃ so, sortI (h.1 69 (3 * i)) = nI so ∧ so ≤ 2 := by
      unfold sortI
      split
      · exact ⟨0, rfl, by omega⟩
      · split
        · exact ⟨1, rfl, by omega⟩
        · exact ⟨2, rfl, by omega⟩
    obtain ⟨so, s1, s2⟩ := e2
    exact ⟨so, y - 48, g1.trans s1, e, s2, by omega, by omega⟩
  · rw [if_neg hv] at t5
    omega
theorem TB.dat {n nb : Nat} {h : HP} (t : TB n nb h) : nb ≤ 10 ∧ ∀ i, i < nb → ∃ c w d, h.1 64 i = nI c ∧ h.1 63 i = nI w ∧ h.1 62 i = nI d ∧ c < 8 ∧ 1 ≤ w ∧ w ≤ 9 ∧ d < 24 := by
  obtain ⟨t1, t2, t3, t4, t5, t6, t7⟩ := t
  refine ⟨by rw [t5]; split <;> omega, fun i hi => ?_⟩
  by_cases hv : h.1 66 3 = -1
  · rw [hv] at t4
    rw [if_pos hv] at t5
    obtain ⟨a1, a2⟩ := t4.m1 (by omega)
    have k0 := a1 (4 * i) (by omega)
    have k1 := a1 (4 * i + 1) (by omega)
    have k2 := a1 (4 * i + 2) (by omega)
    rw [show 4 * i % 4 = 0 by omega] at k0
    rw [show (4 * i + 1) % 4 = 1 by omega] at k1
    rw [show (4 * i + 2) % 4 = 2 by omega] at k2
    obtain ⟨x, x1, x2, x3⟩ := rng (u := 97) (w := 104) (by omega) (by omega) k0
    obtain ⟨y, y1, y2, y3⟩ := rng (u := 49) (w := 57) (by omega) (by omega) k1
    obtain ⟨z, z1, z2, z3⟩ := rng (u := 97) (w := 120) (by omega) (by omega) k2
    obtain ⟨g1, g2, g3⟩ := t7 i hi
    refine ⟨x - 97, y - 48, z - 97, ?_, ?_, ?_, by omega, by omega, by omega, by omega⟩
    · rw [g1, x3]
      exact pk_sub (b := 97) (by omega)
    · rw [g2, y3]
      exact pk_sub (b := 48) (by omega)
    · rw [g3, z3]
      exact pk_sub (b := 97) (by omega)
  · rw [if_neg hv] at t5
    omega
/-- the state of the queries, told by its data -/
def QS (D : DT) (h : HP) : Prop := CD D h ∧ (∃ n, TCm n (dnc D) h) ∧ (∃ n, TBm n (dnb D) h) ∧ SB (dns D) h ∧ (∀ i, i < dns D → dsd D i = h.1 59 i ∧ dsk D i = h.1 58 i) ∧ (∀ i, i < dnb D → ∃ c, c < 8 ∧ dbo D i = nI c) ∧ h.2.2 = 60 ∧ dlo D = 0 ∧ ∃ m, NB m h
theorem Inv.qs {h : HP} (t : Inv h) : ∃ D, QS D h := by
  obtain ⟨⟨n, nc, t1⟩, ⟨n1, nb, t2⟩, ⟨ns, t3⟩, ⟨m, t4⟩, t5, t6, t7, t8⟩ := t
  obtain ⟨c1, c2⟩ := t1.1.dat
  obtain ⟨b1, b2⟩ := t2.1.dat
  obtain ⟨r1, r2, r3, r4⟩ := rf_60
  refine ⟨DD h nc nb ns, ⟨t1.1.2.2.2.2.2.1, t2.1.2.2.2.2.2.1, c1, b1, t3.1, fun i hi => ?_, Or.inl t8, by rw [t8]; exact t3.2.1, fun i hi => by rw [t8, r1, r2]; exact ⟨rfl, rfl⟩, t7, fun i hi => ?_⟩, ⟨n, t1⟩, ⟨n1, t2⟩, t3, fun i hi => ⟨rfl, rfl⟩, fun i hi => ?_, t8, rfl, ⟨m, t4⟩⟩
  · obtain ⟨c, w, d, e1, e2, e3, e4, e5, e6, e7⟩ := b2 i hi
    refine ⟨rfl, rfl, ?_, ?_⟩
    · show h.1 63 i = nI (h.1 63 i).toNatClampNeg
      rw [e2, nI_clamp (by omega)]
    · show (h.1 63 i).toNatClampNeg ≤ 9
      rw [e2, nI_clamp (by omega)]
      omega
  · obtain ⟨so, fg, e1, e2, e3, e4, e5⟩ := c2 i hi
    refine ⟨?_, ?_, ?_, ?_, ?_⟩
    · show h.1 68 i = nI (h.1 68 i).toNatClampNeg
      rw [e1, nI_clamp (by omega)]
    · show h.1 67 i = nI (h.1 67 i).toNatClampNeg
      rw [e2, nI_clamp (by omega)]
    · show (h.1 68 i).toNatClampNeg ≤ 2
      rw [e1, nI_clamp (by omega)]
      omega
    · show 1 ≤ (h.1 67 i).toNatClampNeg
      rw [e2, nI_clamp (by omega)]
      omega
    · show (h.1 67 i).toNatClampNeg ≤ 9
      rw [e2, nI_clamp (by omega)]
      omega
  · obtain ⟨c, w, d, e1, e2, e3, e4, e5, e6, e7⟩ := b2 i hi
    exact ⟨c, e4, e1⟩
theorem CD.sf {D : DT} {h h' : HP} (hc : CD D h) (h60 : h.2.2 = 60) (k : SF h h') : CD D h' := by
  obtain ⟨c1, c2, b1, b2, b3, c3, c4, c5, c6, c7, c8⟩ := hc
  obtain ⟨r1, r2, r3, r4⟩ := rf_60
  have e2 : h'.2.2 = 60 := k.1.trans h60
  rw [h60] at c5 c6
  rw [r1, r2] at c6
  refine ⟨by rw [k.g 70]; exact c1, by rw [k.g 66]; exact c2, b1, b2, b3, fun i hi => by rw [k.g 62, k.g 64, k.g 63]; exact c3 i hi, Or.inl e2, by rw [e2, k.g 60]; exact c5, fun i hi => by rw [e2, r1, r2, k.g 59, k.g 58]; exact c6 i hi, by rw [k.g 54]; exact c7, fun i hi => by rw [k.g 68, k.g 67]; exact c8 i hi⟩
theorem QS.sf {D : DT} {h h' : HP} (t : QS D h) (k : SF h h') : QS D h' := by
  obtain ⟨t1, ⟨n, t2⟩, ⟨n1, t3⟩, t4, t5, t6, t7, t8, ⟨m, t9⟩⟩ := t
  exact ⟨t1.sf t7 k, ⟨n, t2.sf k⟩, ⟨n1, t3.sf k⟩, t4.sf k, fun i hi => by rw [k.g 59, k.g 58]; exact t5 i hi, t6, k.1.trans t7, t8, ⟨m, t9.sf k⟩⟩
/-- f answers r, at any heap that keeps h0's lasting state -/
def Q {α : Type} (h0 : HP) (f : HP → Option (α × HP)) (r : α) : Prop := ∀ h, SF h0 h → ∃ h', f h = some (r, h') ∧ SF h0 h'
theorem Q.op {α : Type} {f g : HP → Option (α × HP)} (hq : ∀ h0, Inv h0 → ∃ r, Q h0 f r ∧ Q h0 g r) : ∀ h, Inv h → ∃ r h1 h2, f h = some (r, h1) ∧ g h1 = some (r, h2) ∧ Inv h2 := fun h hi => by
  obtain ⟨r, q1, q2⟩ := hq h hi
  obtain ⟨h1, e1, s1⟩ := q1 h SF.rf
  obtain ⟨h2, e2, s2⟩ := q2 h1 s1
  exact ⟨r, h1, h2, e1, e2, hi.sf s2⟩
/-- a step that yields no answer -/
def QH (h0 : HP) (f : HP → Option HP) (P : HP → Prop) : Prop := ∀ h, SF h0 h → ∃ h', f h = some h' ∧ SF h0 h' ∧ P h'
theorem Q.b2 {α β : Type} {h0 : HP} {f : HP → Option (α × HP)} {g : α → HP → Option (β × HP)} {r : α} {s : β} (hf : Q h0 f r) (hg : Q h0 (g r) s) : Q h0 (fun h => bd2 (f h) g) s := fun h hs => by
  obtain ⟨h1, e1, s1⟩ := hf h hs
  obtain ⟨h2, e2, s2⟩ := hg h1 s1
  exact ⟨h2, by show bd2 (f h) g = _; rw [e1]; exact e2, s2⟩
theorem Q.id {α : Type} {h0 : HP} {f : HP → Option (α × HP)} {r : α} (e : ∀ h, f h = some (r, h)) : Q h0 f r := fun h hs => ⟨h, e h, hs⟩
theorem Q.pure {α : Type} {h0 : HP} {r : α} : Q h0 (fun h => some (r, h)) r := fun h hs => ⟨h, rfl, hs⟩
/-- both texts read by the reference -/
theorem m_faultOf {n nc n1 nb : Nat} {a : Int32} {h : HP} (t : TCm n nc h) (u : TBm n1 nb h) : ∃ h', f_Mo_faultOf a h = some (if a = 0 then h.1 70 3 else h.1 66 3, h') ∧ h'.1 34 2 = nI nc ∧ h'.1 34 5 = nI nb ∧ MAC nc (h.1 69) h' ∧ MAB nb (h.1 65) h' ∧ FR [27, 28, 29, 30, 31, 34] h h' ∧ ∀ i, i ≠ 2 → i ≠ 5 → h'.1 34 i = h.1 34 i := by
  obtain ⟨⟨t1, t2, t3, t4, t5, t6, t7⟩, t8, t9⟩ := t
  obtain ⟨⟨u1, u2, u3, u4, u5, u6, u7⟩, u8, u9⟩ := u
  obtain ⟨v, h1, e1, p1, p2, p3, p4, p5⟩ := rp_C (b := h.1 69) t1 400 0 (sI (sI h 34 2 0) 34 5 (h.1 34 5)) (by simp [rd_sI, t8]) (fun q hq => by simp [rd_sI, t9 q hq]) (Nat.zero_le _) (by omega) (fun q hq => absurd hq (Nat.not_lt_zero _)) (fun i hi => absurd hi (Nat.not_lt_zero _)) (by simp [rd_sI])
  have ev := p1.uniq t4
  subst ev
  rw [← t5] at p2 p3
  have f1 : FR [30, 31, 34] h h1 := FR.tr (by repeat' (first | exact FR.rf | refine FR.s ?_ (by decide))) p4
  obtain ⟨v2, h2, e2, r1, r2, r3, r4, r5⟩ := rp_B (b := h.1 65) u1 400 0 (sI (sI h1 34 2 (h1.1 34 2)) 34 5 0) (by simp [rd_sI, f1.2 33 (by decide), u8]) (fun q hq => by simp [rd_sI, f1.2 32 (by decide), u9 q hq]) (Nat.zero_le _) (by omega) (fun q hq => absurd hq (Nat.not_lt_zero _)) (fun i hi => absurd hi (Nat.not_lt_zero _)) (by simp [rd_sI])
  have ev2 := r1.uniq u4
  subst ev2
  rw [← u5] at r2 r3
  have f2 : FR [27, 28, 29, 34] h1 h2 := FR.tr (by repeat' (first | exact FR.rf | refine FR.s ?_ (by decide))) r4
  refine ⟨h2, ?_, ?_, r2, ?_, r3, (f1.mono (by decide)).tr (f2.mono (by decide)), fun i hi hj => ?_⟩
  · unfold f_Mo_faultOf f_Mo_readsParts
    have e1' : lp_Mo_readsParts_48 2 0 400 0 0 (sI (sI h 34 2 0) 34 5 (h.1 34 5)) = some (h.1 70 3, h1) := e1
    have e2' : lp_Mo_readsParts_48 3 1 400 0 0 (sI (sI h1 34 2 (h1.1 34 2)) 34 5 0) = some (h.1 66 3, h2) := e2
    have e3 : (sI h 34 2 0).1 34 5 = h.1 34 5 := by simp [rd_sI]
    simp only [if_true, i0_1, i1_0, if_false, bd1_s, ltt_s, rI, e3, e1', bd2_s, e2']
    by_cases z : a = 0
    · rw [if_pos z, if_pos z]
    · rw [if_neg z, if_neg z]
  · rw [r5 2 (by decide)]
    simp [rd_sI, p2]
  · intro i hi
    have := p3 i hi
    rw [f2.2 31 (by decide), f2.2 30 (by decide)]
    exact this
  · rw [r5 i hj]
    simp only [rd_sI, hi, hj, and_false, if_false]
    rw [p5 i hi]
    simp [rd_sI, hi, hj]
