/-! THE CLAIM OUT OF ONE WALK OF THE LAW'S BODY. Your part is whole_start (and what it stands on); all else here is the same for every law, but numbers. -/
def R_law : String := "CamelStrawsLaw"
def lw_P (b : Addr) (xs : List Int32) (args : Array Value) (s : State) : Prop := args = #[.ref b] ∧ s.IntsAt b xs ∧ xs.length ≤ 384 ∧ (Jvm.Cond.and given_1 narrow_1).before args s = true
def lw_Q (_ : Array Value) (s : State) (o : Outcome) (t : State) : Prop := o = .returned (some (.int 1)) ∧ Framed s o t [] 600000 7302250
def lw_Z (below : List Frame) (a : Array Value) (s : State) : State → Prop := fun t => ∃ o, t.status = .running ∧ Ended t below o ∧ lw_Q a s o t
/-- the law's own end, with 1 on the stack, nothing written that was there before, its room as the claim has it -/
theorem lw_ret {p : Program} {l : Launch} {e : Env} {s : State} {m : MethodId} {below : List Frame} {meth : Method} {c : Code} {b : Nat} (hx : p.tables.exec = Jvm.exec) (hb : c.code = code) (hr : meth.sig.returnType = ret) (hlocks : meth.locks = false) {pc : Nat} {H : Heap} {ls : Array Slot} (hdg : decode code pc = .ok (.ireturn, 1)) : W p l e room_1 s m #[Value.ref b] below meth c H [] 600000 7302250 (lw_Z below #[Value.ref b] s) (F0 m pc ls [.int 1]) := by
  intro T hT X
  obtain ⟨fs, hret, hrun, hended, hW, hframe⟩ := X.leave (v := some (.int 1)) (hlocks := hlocks) (fun h => by rw [hr] at h; cases h)
  have hmeth' : T.vm.method? m = some meth := X.method'
  refine ⟨T.setFrames fs, ?_, .returned (some (.int 1)), hrun, hended, rfl, ⟨_, rfl⟩, hW, hframe⟩
  jvm_step X.here [X.here.top, hx, hb, hdg, hmeth', hr, ret, narrow_b1]
  (try refine ⟨rfl, ?_⟩); (try refine ⟨rfl, ?_⟩)
  first | (intro acts; rw [hret _ acts rfl rfl rfl]) | rw [hret _ _ rfl rfl rfl]
  exact Steps.refl _
/-- what holds at the law's entry: the machine, the code, the tables' words (any of lw_tbl by 'hts w (by decide +kernel)'), the script of L ints xs at the cell b, what the Statement gives of the start (any of its parts by flat_of_before) -/
def lw_At (p : Program) (s : State) (m : MethodId) (meth : Method) (c : Code) (b L : Nat) (xs : Nat → Int32) : Prop :=
  p.tables.exec = Jvm.exec ∧ c.code = code ∧ meth.sig.returnType = ret ∧ c.maxLocals = 4 ∧ s.vm.findClass R_law = some m.cls ∧ (∀ w ∈ lw_tbl, w.before #[Value.ref b] s = true) ∧ va_X b L xs s s.heap ∧ b < s.heap.size ∧ meth.locks = false ∧ (Jvm.Cond.and given_1 narrow_1).before #[Value.ref b] s = true

theorem xw_start {s : State} {args : Array Value} (hts : ∀ w ∈ lw_tbl, w.before args s = true) : XW s := by
  intro w hw
  have hk := tb_ok w hw
  have hm := (List.mem_filter.mp hw).1
  refine okW_any hk rfl (A := args) ?_
  rcases List.mem_append.mp hm with h | h
  · exact hts w h
  · unfold ex_l at h
    simp only [List.mem_cons, List.not_mem_nil, or_false] at h
    rcases h with rfl | rfl | rfl | rfl
    · exact sel_up (n := 7) (hts _ (List.mem_of_getElem? (i := 94) (by decide +kernel))) (hts _ (List.mem_of_getElem? (i := 1392) (by decide +kernel))) (hts _ (List.mem_of_getElem? (i := 414) (by decide +kernel))) (hts _ (List.mem_of_getElem? (i := 415) (by decide +kernel)))
    · exact sel_up (n := 8) (hts _ (List.mem_of_getElem? (i := 148) (by decide +kernel))) (hts _ (List.mem_of_getElem? (i := 1392) (by decide +kernel))) (hts _ (List.mem_of_getElem? (i := 414) (by decide +kernel))) (hts _ (List.mem_of_getElem? (i := 415) (by decide +kernel)))
    · exact sel_up (n := 7) (hts _ (List.mem_of_getElem? (i := 94) (by decide +kernel))) (hts _ (List.mem_of_getElem? (i := 1393) (by decide +kernel))) (hts _ (List.mem_of_getElem? (i := 418) (by decide +kernel))) (hts _ (List.mem_of_getElem? (i := 419) (by decide +kernel)))
    · exact sel_up (n := 8) (hts _ (List.mem_of_getElem? (i := 148) (by decide +kernel))) (hts _ (List.mem_of_getElem? (i := 1393) (by decide +kernel))) (hts _ (List.mem_of_getElem? (i := 418) (by decide +kernel))) (hts _ (List.mem_of_getElem? (i := 419) (by decide +kernel)))
theorem kn_start {s : State} (hx : XW s) : ∃ (dC : Nat → ClassId) (dI : Nat → Nat → Nat), ∀ (k : Nat) (q : vw_C), cl_s[k]? = some q → u_Kn s q.1 q.2.1 q.2.2 (dC k) (dI k) := by
  have hts := hx.hts #[]
  obtain ⟨cid0, isl0, hkn0⟩ := u_known (C := K_0) (T := T_0) (N := 11) (n := 11) hts in_0 (hts _ (tb_in 86 (by decide +kernel) rfl))
  obtain ⟨cid1, isl1, hkn1⟩ := u_known (C := K_1) (T := T_1) (N := 8) (n := 8) hts in_1 (hts _ (tb_in 148 (by decide +kernel) rfl))
  obtain ⟨cid2, isl2, hkn2⟩ := u_known (C := K_2) (T := T_2) (N := 7) (n := 7) hts in_2 (hts _ (tb_in 94 (by decide +kernel) rfl))
  obtain ⟨cid3, isl3, hkn3⟩ := u_known (C := K_3) (T := T_3) (N := 6) (n := 6) hts in_3 (hts _ (tb_in 201 (by decide +kernel) rfl))
  obtain ⟨cid4, isl4, hkn4⟩ := u_known (C := K_4) (T := T_4) (N := 6) (n := 6) hts in_4 (hts _ (tb_in 303 (by decide +kernel) rfl))
  obtain ⟨cid5, isl5, hkn5⟩ := u_known (C := K_5) (T := T_5) (N := 3) (n := 3) hts in_5 (hts _ (tb_in 329 (by decide +kernel) rfl))
  obtain ⟨cid6, isl6, hkn6⟩ := u_known (C := K_6) (T := T_6) (N := 3) (n := 3) hts in_6 (hts _ (tb_in 285 (by decide +kernel) rfl))
  obtain ⟨cid7, isl7, hkn7⟩ := u_known (C := K_7) (T := T_7) (N := 3) (n := 3) hts in_7 (hts _ (tb_in 348 (by decide +kernel) rfl))
  obtain ⟨cid8, isl8, hkn8⟩ := u_known (C := K_8) (T := T_8) (N := 3) (n := 3) hts in_8 (hts _ (tb_in 179 (by decide +kernel) rfl))
  obtain ⟨cid9, isl9, hkn9⟩ := u_known (C := K_9) (T := T_9) (N := 13) (n := 13) hts in_9 (hts _ (tb_in 207 (by decide +kernel) rfl))
  obtain ⟨cid10, isl10, hkn10⟩ := u_known (C := K_10) (T := T_10) (N := 45) (n := 45) hts in_10 (hts _ (tb_in 864 (by decide +kernel) rfl))
  have key : ∀ k : Nat, ∃ z : ClassId × (Nat → Nat), ∀ q : vw_C, cl_s[k]? = some q → u_Kn s q.1 q.2.1 q.2.2 z.1 z.2 := by
    intro k
    match k with
    | 0 => exact ⟨(cid0, isl0), fun q hq => by cases hq; exact hkn0⟩
    | 1 => exact ⟨(cid1, isl1), fun q hq => by cases hq; exact hkn1⟩
    | 2 => exact ⟨(cid2, isl2), fun q hq => by cases hq; exact hkn2⟩
    | 3 => exact ⟨(cid3, isl3), fun q hq => by cases hq; exact hkn3⟩
    | 4 => exact ⟨(cid4, isl4), fun q hq => by cases hq; exact hkn4⟩
    | 5 => exact ⟨(cid5, isl5), fun q hq => by cases hq; exact hkn5⟩
    | 6 => exact ⟨(cid6, isl6), fun q hq => by cases hq; exact hkn6⟩
    | 7 => exact ⟨(cid7, isl7), fun q hq => by cases hq; exact hkn7⟩
    | 8 => exact ⟨(cid8, isl8), fun q hq => by cases hq; exact hkn8⟩
    | 9 => exact ⟨(cid9, isl9), fun q hq => by cases hq; exact hkn9⟩
    | 10 => exact ⟨(cid10, isl10), fun q hq => by cases hq; exact hkn10⟩
    | k + 11 => exact ⟨(cid0, isl0), fun q hq => by
        have hl := (List.getElem?_eq_some_iff.mp hq).1
        simp only [cl_s, List.length_cons, List.length_nil] at hl
        omega⟩
  exact ⟨fun k => (Classical.choose (key k)).1, fun k => (Classical.choose (key k)).2, fun k q hq => Classical.choose_spec (key k) q hq⟩
theorem ar_start {s : State} (hx : XW s) (ty : FieldType) (hp : ∀ C, ty ≠ .object C) (h : Cond.arrayClass ty ∈ tb_l) : ∃ cA, ArrOfT s cA ty ∧ va_RA s cA ty := by
  obtain ⟨cA, kA, comp, h1, h2, h3⟩ := Cond.arrayClass_spec (hx.hts #[] _ h)
  refine ⟨cA, fun n z => ⟨fun k h => (by cases h), kA, h2, comp, h3⟩, ?_⟩
  cases ty with
  | object C => exact absurd rfl (hp C)
  | _ => exact h1
theorem ao_start {s : State} (hx : XW s) (C : String) (h : Cond.arrayOver (.object C) ∈ tb_l) : ∃ cA, ArrOfT s cA (.object C) ∧ va_RA s cA (.object C) := by
  obtain ⟨comp, cA, kA, h1, h2, h3, h4, h5⟩ := Cond.arrayOver_spec (hx.hts #[] _ h)
  exact ⟨cA, fun n z => ⟨fun k h => (by cases h), kA, h3, comp, h4⟩, kA, comp, h3, h4, h1, h5⟩
theorem wk_start {s : State} (hx : XW s) : ∃ g : GG, wk g s := by
  obtain ⟨dC, dI, hkn⟩ := kn_start hx
  obtain ⟨cI, i1, i2⟩ := ar_start hx .int (fun C h => by cases h) wa_int
  obtain ⟨cZ, z1, z2⟩ := ar_start hx .boolean (fun C h => by cases h) wa_boolean
  obtain ⟨cT, t1, t2⟩ := ao_start hx "CamelStraws$Text" wv_Tx
  obtain ⟨cS, s1, s2⟩ := ao_start hx "CamelStraws$Sheet" wv_Sh
  refine ⟨((dC, dI), (cI, cZ, cT, cS)), ⟨hkn, fun k q hq => ?_⟩, hx⟩
  match k, hq with
  | 0, hq => cases hq; exact ⟨i1, i2⟩
  | 1, hq => cases hq; exact ⟨z1, z2⟩
  | 2, hq => cases hq; exact ⟨t1, t2⟩
  | 3, hq => cases hq; exact ⟨s1, s2⟩
  | k + 4, hq =>
    have hl := (List.getElem?_eq_some_iff.mp hq).1
    simp only [ty4, List.length_cons, List.length_nil] at hl
    omega
set_option maxHeartbeats 4000000 in
set_option maxRecDepth 100000 in
theorem whole_start0 {p : Program} {e : Env} {s : State} {m : MethodId} {below : List Frame} {meth : Method} {c : Code} (l : Launch) {b L : Nat} {xs : Nat → Int32} (hlaw : ∃ h' : HP, f_law L xs hz_ = some (1, h')) (C0 : lw_At p s m meth c b L xs) : W p l e room_1 s m #[Value.ref b] below meth c s.heap [] 0 0 (lw_Z below #[Value.ref b] s) (entryFrame m ([Value.ref b] : List Value).toArray 4) := by
  obtain ⟨hx, hb, hr, hml, hown, hts, hX, hbl, hlocks, hgv⟩ := id C0
  obtain ⟨g, hg⟩ := wk_start (xw_start hts)
  obtain ⟨h', hh'⟩ := hlaw
  have hV := law_head l g (fun v _ => v = some (.int 1)) b L xs (fun ad => ⟨(1, h'), hh', rfl⟩)
  rw [lg_entry_eq]
  refine hV p e s m #[Value.ref b] below meth c s.heap [] (fun q : Nat => s.heap.size ≤ q) (lw_Z below #[Value.ref b] s) _ ⟨hx, hb, hml, hown, hg, fun _ h => h, ?_, ?_⟩ ⟨fun k q h => by simp at h, ⟨fun i j p q h => by simp at h, fun k q h => by simp at h⟩, va_S.rf⟩ (lv_entry [.ref b] (Nat.le_of_ble_eq_true rfl)) ?_
  · intro hh
    have h2 : false = true := hh
    cases h2
  · intro b1 L1 xs1 hh
    have h2 : some (b, L, xs) = some (b1, L1, xs1) := hh
    cases h2
    exact ⟨hX, hbl, Nat.not_le.mpr hbl⟩
  · intro v ws' H' locs' ls' pc' hQ hR hret
    have hv : v = some (.int 1) := hQ
    subst hv
    rcases hret with ⟨r, h1, hd, -⟩ | ⟨r, h1, -⟩ | ⟨a, C, h1, -⟩ | ⟨h1, -⟩
    · refine va_forget (fun q hq => hR.2.2.2.2 q hq) ?_
      exact lw_ret hx hb hr hlocks hd
    · cases h1
    · cases h1
    · cases h1
