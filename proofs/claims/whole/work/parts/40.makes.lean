/-! constructors: the world grows at its front -/
theorem pe_front {g : GG} {A : Nat → Prop} {ws : va_W} {q : Nat × va_E} {H : Heap} (hP : va_P g.1 cl_s (ws ++ [q]) H) (hD : va_D A (ws ++ [q])) : va_P g.1 cl_s (q :: ws) H ∧ va_D A (q :: ws) := by
  have key : ∀ (k : Nat) (z : Nat × va_E), (q :: ws)[k]? = some z → ∃ j, (ws ++ [q])[j]? = some z ∧ ((k = 0 ∧ j = ws.length) ∨ (k = j + 1 ∧ j < ws.length)) := by
    intro k z hk
    cases k with
    | zero =>
      rw [List.getElem?_cons_zero] at hk
      refine ⟨ws.length, ?_, Or.inl ⟨rfl, rfl⟩⟩
      rw [List.getElem?_append_right (Nat.le_refl _), Nat.sub_self]
      exact hk
    | succ k =>
      rw [List.getElem?_cons_succ] at hk
      have hl := (List.getElem?_eq_some_iff.mp hk).1
      refine ⟨k, ?_, Or.inr ⟨rfl, hl⟩⟩
      rw [List.getElem?_append_left hl]
      exact hk
  refine ⟨fun k z hk => ?_, fun i j x y hi hj hxy => ?_, fun k z hk => ?_⟩
  · obtain ⟨j, hj, -⟩ := key k z hk
    exact hP j z hj
  · obtain ⟨i', hi', e1⟩ := key i x hi
    obtain ⟨j', hj', e2⟩ := key j y hj
    have := hD.1 i' j' x y hi' hj' hxy
    omega
  · obtain ⟨j, hj, -⟩ := key k z hk
    exact hD.2 j z hj
def PmW (g : GG) (ws : va_W) (argv : List Value) (sz : Nat) : Array Value → State → Prop := va_Pc argv (fun U => U.heap.size = sz ∧ va_P g.1 cl_s ws U.heap ∧ va_D (fun _ => True) ws ∧ wk g U)
def QmW (g : GG) (ws : va_W) (sz : Nat) (Qp : va_W → Prop) : Array Value → State → Outcome → State → Prop := fun _ st oc t => oc = .returned none ∧ (∃ ws', Qp ws' ∧ va_P g.1 cl_s ws' t.heap ∧ va_D (va_A ws sz) ws') ∧ va_F (va_A ws sz) st t
def CtW (l : Launch) (g : GG) (y : MethodName) (bytes : ByteArray) (mL : Nat) (R : Room) (argv : List Value) (ws : va_W) (Qp : va_W → Prop) (mc ms : Nat) : Prop := ∀ sz, Met l y [.code y bytes mL none] R (PmW g ws argv sz) (QmW g ws sz Qp) mc ms (va_A ws sz)
theorem PmW.blind {g : GG} {ws : va_W} {argv : List Value} {sz : Nat} : FrameBlind (PmW g ws argv sz) := fun _ _ _ _ q => ⟨q.1, q.2.1, q.2.2.1, q.2.2.2.1, wk.calling q.2.2.2.2⟩
theorem CtW.of {l : Launch} {g : GG} {y : MethodName} {bytes : ByteArray} {mL : Nat} {R : Room} {argv : List Value} {ws : va_W} {Qp : va_W → Prop} {mc ms : Nat} (hy : plainName y.cls = true) (hi : y.name = "<init>") (hlen : (lg_sl argv).length ≤ mL)
    (hV : Vw (l, g, none, R, y.cls, bytes, mL, true, mc, ms, fun v ws' => v = none ∧ Qp ws', none) 0 0 0 (lv_args 0 argv) [] ws) : CtW l g y bytes mL R argv ws Qp mc ms := by
  intro sz
  refine Met.ofW (cc := bytes) (maxL := mL) (ret := none) hy rfl ?_
  intro p e s m args below meth c s₁ B hml hv
  obtain ⟨rfl, hsz, hP, hD0, hK⟩ := hv
  have hr := B.returns
  have hlocks := B.notSynchronized
  rw [lg_entry_eq]
  have hSf : Sf (l, g, none, R, y.cls, bytes, mL, true, mc, ms, fun v ws' => v = none ∧ Qp ws', none) p s m argv.toArray meth c (va_A ws sz) := by
    refine ⟨B.exec, B.bytes, hml, findClass_of_methodNamed B.named, hK, fun q hq => Or.inr (by rw [← hsz]; exact hq), ?_, ?_⟩
    · intro _
      rw [(name_of_methodNamed B.named B.method).1]
      exact hi
    · intro b1 L1 xs1 hh
      have h2 : (none : Option (Nat × Nat × (Nat → Int32))) = some (b1, L1, xs1) := hh
      cases h2
  refine hV p e s m _ below meth c s.heap [] (va_A ws sz) _ _ hSf ⟨hP, hD0.self, va_S.rf⟩ (lv_entry argv hlen) ?_
  intro v' ws' H' locs' ls' pc' hQ hR hret
  obtain ⟨rfl, hQp⟩ := hQ
  have hq : ∀ t : State, t.heap = H' → s.WarmedH t.vm → QmW g ws sz Qp argv.toArray s (.returned none) t := fun t ht _ => ⟨rfl, ⟨ws', hQp, by rw [ht]; exact hR.1, hR.2.1⟩, hR.2.2.F ht⟩
  rcases hret with ⟨r, h1, -⟩ | ⟨r, h1, -⟩ | ⟨a, C, h1, -⟩ | ⟨-, hd, -⟩
  · cases h1
  · cases h1
  · cases h1
  · exact W.vret B.exec B.bytes hr hq hR.2.2.2.2 hd
section MAKES
variable {x : KX} {k n pc : Nat} {lv : List (Nat × Value)} {st rest : List Value} {ws : va_W}
theorem V_istore_n {z : Fin 4} {u : Int32} {lv' : List (Nat × Value)} (i : Nat) (hi : (z : Nat) = i) (hn : i < xnL x) (hlv : (i, Value.int u) :: lv.filter (fun q => !(q.1 == i) && !(q.1 + 1 == i && q.2.category == 2)) = lv') (hd : decode (xcc x) pc = .ok (.istore_n z, 1)) (kk : Vw x k n (pc + 1) lv' st ws) : Vw x k n pc lv (.int u :: st) ws := J_istore_n (X := fun _ : Unit => True) (o := some ()) i hi hn hlv hd (fun _ => kk) ⟨(), rfl, trivial⟩
theorem V_astore_n {z : Fin 4} {u : Nat} {lv' : List (Nat × Value)} (i : Nat) (hi : (z : Nat) = i) (hn : i < xnL x) (hlv : (i, Value.ref u) :: lv.filter (fun q => !(q.1 == i) && !(q.1 + 1 == i && q.2.category == 2)) = lv') (hd : decode (xcc x) pc = .ok (.astore_n z, 1)) (kk : Vw x k n (pc + 1) lv' st ws) : Vw x k n pc lv (.ref u :: st) ws := J_astore_n (X := fun _ : Unit => True) (o := some ()) i hi hn hlv hd (fun _ => kk) ⟨(), rfl, trivial⟩
theorem V_vret (hk : k ≤ xkE x) (hn : n ≤ xnE x) (hd : decode (xcc x) pc = .ok (.return_, 1)) (hr : xret x = none) (hQ : xQ x none ws) : Vw x k n pc lv [] ws := V_ret (v := none) hk hn (Or.inr (Or.inr (Or.inr ⟨rfl, hd, hr⟩))) hQ
theorem V_objinit {idx a : Nat} (hlk : Cond.methodLink (xow x) idx Lib.objectInit ∈ tb_l) (hin : Cond.instanceMethod Lib.objectInit ∈ tb_l) (hco : Cond.code Lib.objectInit ⟨#[0xb1]⟩ 1 none ∈ tb_l) (hfr : 1 ≤ (xR x).frames) (hlo : (st.map fun v => v.category).sum + 12 ≤ (xR x).locals) (hd : decode (xcc x) pc = .ok (.invokespecial idx, 3)) (kk : Vw x k n (pc + 3) lv st ws) : Vw x k n pc lv (.ref a :: st) ws := fun p e s m args below meth c H locs A Z ls S r hl hE => by
  have hts := S.2.2.2.2.1.2.hts args
  refine W.objInit S.1 S.2.1 S.2.2.2.1 (hts _ hlk) (hts _ hin) (hts _ hco) rfl (hl.1.trans S.2.2.1.symm) rfl hd hfr (by show 2 * 0 + _ + 12 ≤ _; omega) (kk p e s m args below meth c H locs A Z ls S r hl hE)
theorem V_new {idx ci N : Nat} {C : String} {T : u_T} {ty : Nat → FieldType} {fs : List Value} (hc : cl_ok ci C T N ty) (hcl : Cond.classLink (xow x) idx C ∈ tb_l) (hin : Cond.instantiable C N ∈ tb_l) (hini : Cond.initialized C ∈ tb_l) (hfs : ∀ j, j < N → defaultValue (ty j) = vp_V fs j) (hk : k + 1 ≤ (xR x).cells) (hn : n + N ≤ (xR x).slots) (hd : decode (xcc x) pc = .ok (.new idx, 3)) (kk : ∀ q, Vw x (k + 1) (n + N) (pc + 3) lv (.ref q :: st) ((q, .inr (ci, fs)) :: ws)) : Vw x k n pc lv st ws := fun p e s m args below meth c H locs A Z ls S r hl hE => by
  have hts := S.2.2.2.2.1.2.hts args
  refine va_new S.1 S.2.1 hts hc.2.1 ty hc.2.2.1 S.2.2.2.1 (hts _ hcl) (hts _ hin) (hts _ hini) S.2.2.2.2.1.1 r.1 r.2.1 r.2.2 S.2.2.2.2.2.1 hc.1 hfs hk hn hd (fun q H1 q1 q2 q3 => ?_)
  obtain ⟨p1, p2⟩ := pe_front q1 q2
  exact kk q p e s m args below meth c H1 locs A Z ls S ⟨p1, p2, q3⟩ hl hE
theorem V_newI {N : Nat} {v : Int32} (har : Cond.arrayClass .int ∈ tb_l) (hv : ¬ v < 0) (hN : v.toNatClampNeg = N) (hB : N * componentBytes .int ≤ 536870912) (hk : k + 1 ≤ (xR x).cells) (hn : n + N ≤ (xR x).slots) (hd : decode (xcc x) pc = .ok (.newarray .int, 2)) (kk : ∀ q, Vw x (k + 1) (n + N) (pc + 2) lv (.ref q :: st) ((q, .inl ((xg x).2.1, N, .inl (fun _ => 0))) :: ws)) : Vw x k n pc lv (.int v :: st) ws := fun p e s m args below meth c H locs A Z ls S r hl hE => by
  have hts := S.2.2.2.2.1.2.hts args
  have hK := S.2.2.2.2.1.1
  refine va_newa (atype := .int) (a0 := (N, .inl (fun _ => 0))) S.1 S.2.1 (hts _ har) (ty := .int) rfl hK r.1 r.2.1 r.2.2 S.2.2.2.2.2.1 (fun _ => rfl) hv hN hB hk hn hd (fun q cA H1 q0 q1 q2 q3 => ?_)
  have e1 := (q0.2 (ty4 (xg x)).length (cA, .int) (by simp)).2
  have e2 := (hK.2 0 ((xg x).2.1, .int) rfl).2
  have e3 : cA = (xg x).2.1 := Option.some.inj (e1.symm.trans e2)
  subst e3
  obtain ⟨p1, p2⟩ := pe_front q1 q2
  exact kk q p e s m args below meth c H1 locs A Z ls S ⟨p1, p2, q3⟩ hl hE
theorem V_newZ {N : Nat} {v : Int32} (har : Cond.arrayClass .boolean ∈ tb_l) (hv : ¬ v < 0) (hN : v.toNatClampNeg = N) (hB : N * componentBytes .boolean ≤ 536870912) (hk : k + 1 ≤ (xR x).cells) (hn : n + N ≤ (xR x).slots) (hd : decode (xcc x) pc = .ok (.newarray .boolean, 2)) (kk : ∀ q, Vw x (k + 1) (n + N) (pc + 2) lv (.ref q :: st) ((q, .inl ((xg x).2.2.1, N, .inl (fun _ => 0))) :: ws)) : Vw x k n pc lv (.int v :: st) ws := fun p e s m args below meth c H locs A Z ls S r hl hE => by
  have hts := S.2.2.2.2.1.2.hts args
  have hK := S.2.2.2.2.1.1
  refine va_newa (atype := .boolean) (a0 := (N, .inl (fun _ => 0))) S.1 S.2.1 (hts _ har) (ty := .boolean) rfl hK r.1 r.2.1 r.2.2 S.2.2.2.2.2.1 (fun _ => rfl) hv hN hB hk hn hd (fun q cA H1 q0 q1 q2 q3 => ?_)
  have e1 := (q0.2 (ty4 (xg x)).length (cA, .boolean) (by simp)).2
  have e2 := (hK.2 1 ((xg x).2.2.1, .boolean) rfl).2
  have e3 : cA = (xg x).2.2.1 := Option.some.inj (e1.symm.trans e2)
  subst e3
  obtain ⟨p1, p2⟩ := pe_front q1 q2
  exact kk q p e s m args below meth c H1 locs A Z ls S ⟨p1, p2, q3⟩ hl hE
theorem V_newQ {idx N t : Nat} {C : String} {cA0 : ClassId} {v : Int32} (ht : (ty4 (xg x))[t]? = some (cA0, .object C)) (hcl : Cond.classLink (xow x) idx C ∈ tb_l) (hov : Cond.arrayOver (.object C) ∈ tb_l) (hv : ¬ v < 0) (hN : v.toNatClampNeg = N) (hB : N * 4 ≤ 536870912) (hk : k + 1 ≤ (xR x).cells) (hn : n + N ≤ (xR x).slots) (hd : decode (xcc x) pc = .ok (.anewarray idx, 3)) (kk : ∀ q, Vw x (k + 1) (n + N) (pc + 3) lv (.ref q :: st) ((q, .inl (cA0, N, .inr (.inr (.inr (.inr (fun _ => none)))))) :: ws)) : Vw x k n pc lv (.int v :: st) ws := fun p e s m args below meth c H locs A Z ls S r hl hE => by
  have hts := S.2.2.2.2.1.2.hts args
  have hK := S.2.2.2.2.1.1
  refine va_newq S.1 S.2.1 S.2.2.2.1 (hts _ hcl) (va_AO.of (hts _ hov)) hK r.1 r.2.1 r.2.2 S.2.2.2.2.2.1 hv hN hB hk hn hd (fun q cA H1 q0 q1 q2 q3 => ?_)
  obtain ⟨_, _, -, -, -, e1⟩ := (q0.2 (ty4 (xg x)).length (cA, .object C) (by simp)).2
  obtain ⟨_, _, -, -, -, e2⟩ := (hK.2 t (cA0, .object C) ht).2
  have e3 : cA = cA0 := Option.some.inj (e1.symm.trans e2)
  subst e3
  obtain ⟨p1, p2⟩ := pe_front q1 q2
  exact kk q p e s m args below meth c H1 locs A Z ls S ⟨p1, p2, q3⟩ hl hE
theorem V_astq {q0 t qk ci a N v : Nat} {C E : String} {T : u_T} {NN : Nat} {ty : Nat → FieldType} {cA0 : ClassId} {f : Nat → Option Nat} {vs : List Value} {i : Int32} (ha : ws[q0]? = some (a, .inl (cA0, N, .inr (.inr (.inr (.inr f)))))) (ht : (ty4 (xg x))[t]? = some (cA0, .object E)) (hv : ws[qk]? = some (v, .inr (ci, vs))) (hc : cl_ok ci C T NN ty) (hca : C = E ∨ Cond.castable C E ∈ tb_l) (hin : inb i N = true) (hd : decode (xcc x) pc = .ok (.aastore, 1)) (kk : Vw x k n (pc + 1) lv st (ws.set q0 (a, .inl (cA0, N, .inr (.inr (.inr (.inr (va_up f i.toNatClampNeg (some v))))))))) : Vw x k n pc lv (.ref v :: .int i :: .ref a :: st) ws := fun p e s m args below meth c H locs A Z ls S r hl hE => by
  have hts := S.2.2.2.2.1.2.hts args
  have hK := S.2.2.2.2.1.1
  refine va_astqM S.1 S.2.1 hK r.1 r.2.1 r.2.2 q0 t ha ht (va_rAny hK r.1 hv hc.1 (fun comp c0 h1 h2 => ?_)) (inb_in hin) hd (fun H1 locs1 q1 q2 q3 => kk p e s m args below meth c H1 locs1 A Z ls S ⟨q1, q2, q3⟩ hl hE)
  rcases hca with rfl | hca
  · have e0 : c0 = (xg x).1.1 ci := Option.some.inj (h2.symm.trans (hK.1 ci _ hc.1).2.1)
    have e1 : comp = c0 := Option.some.inj (h1.symm.trans h2)
    rw [e1, e0]
    exact va_assign (hK.1 ci _ hc.1).2
  · obtain ⟨c1, t1, f1, f2, f3⟩ := Cond.castable_spec (hts _ hca)
    cases h1.symm.trans f2
    cases h2.symm.trans f1
    exact f3
theorem V_getW {idx q0 a ci j N : Nat} {C : String} {T : u_T} {ty : Nat → FieldType} {fs : List Value} {v : Value} (hc : cl_ok ci C T N ty) (hw : ws[q0]? = some (a, .inr (ci, fs))) (hj : j < N) (hlk : Cond.fieldLink (xow x) idx (T j).1 (T j).2.1 (T j).2.2.1 ∈ tb_l) (hv : fs[j]? = some v) (hd : decode (xcc x) pc = .ok (.getfield idx, 3)) (kk : Vw x k n (pc + 3) lv (v :: st) ws) : Vw x k n pc lv (.ref a :: st) ws := fun p e s m args below meth c H locs A Z ls S r hl hE => by
  have hts := S.2.2.2.2.1.2.hts args
  exact va_get (v := v) S.1 S.2.1 hts hc.2.1 S.2.2.2.1 S.2.2.2.2.1.1 r.1 q0 hw hc.1 j hj (hts _ hlk) (fun _ h => h) hv hd (kk p e s m args below meth c H locs A Z ls S r hl hE)
theorem V_putW {idx q0 a ci j N : Nat} {C : String} {T : u_T} {ty : Nat → FieldType} {fs : List Value} {v : Value} (hc : cl_ok ci C T N ty) (hw : ws[q0]? = some (a, .inr (ci, fs))) (hj : j < N) (hl0 : j < fs.length) (hlk : Cond.fieldLink (xow x) idx (T j).1 (T j).2.1 (T j).2.2.1 ∈ tb_l) (hfin : (T j).2.2.2 = false ∨ ((T j).2.2.2 = true ∧ xini x = true ∧ (T j).1 = xow x)) (hn : narrow (ty j) v = v) (hfit : fits (ty j) v = true) (hd : decode (xcc x) pc = .ok (.putfield idx, 3)) (kk : Vw x k n (pc + 3) lv st (ws.set q0 (a, .inr (ci, fs.set j v)))) : Vw x k n pc lv (v :: .ref a :: st) ws := fun p e s m args below meth c H locs A Z ls S r hl hE => by
  have hts := S.2.2.2.2.1.2.hts args
  rcases hfin with hfin | ⟨hfin, hini, hown⟩
  · exact va_put (v := v) S.1 S.2.1 hts hc.2.1 ty hc.2.2.1 hc.2.2.2 S.2.2.2.1 S.2.2.2.2.1.1 r.1 r.2.1 r.2.2 q0 hw hc.1 j hj (hts _ hlk) (fun _ h => h) hfin (hc.2.2.1 j hj) hn hfit hl0 hd (fun H1 locs1 q1 q2 q3 => kk p e s m args below meth c H1 locs1 A Z ls S ⟨q1, q2, q3⟩ hl hE)
  · exact va_putF (v := v) S.1 S.2.1 hts hc.2.1 ty hc.2.2.1 hc.2.2.2 S.2.2.2.1 S.2.2.2.2.1.1 r.1 r.2.1 r.2.2 q0 hw hc.1 j hj (hts _ hlk) (fun _ h => h) hfin (S.2.2.2.2.2.2.1 hini) hown (hc.2.2.1 j hj) hn hfit hl0 hd (fun H1 locs1 q1 q2 q3 => kk p e s m args below meth c H1 locs1 A Z ls S ⟨q1, q2, q3⟩ hl hE)
theorem V_runW {aa : Array Value} {mc ms : Nat} {Qp : va_W → Prop} (hr : ∀ p e s m args below meth c H locs A ls, Sf x p s m args meth c A → Rw (xg x) A s.heap ws H locs → lv_has ls (xnL x) lv → va_Run p (xl x) e (xR x) s m args below meth c H locs k n mc ms (F0 m pc ls st) rest (QmW (xg x) ws H.size Qp aa) (va_A ws H.size)) (kk : ∀ ws', Qp ws' → Vw x (k + mc) (n + ms) (pc + 3) lv rest ws') : Vw x k n pc lv st ws := by
  intro p e s m args below meth c H locs A Z ls S r hl hE T hT X
  obtain ⟨v', st₀, t, T', L, h0, X', hL, e1, e2, ⟨hv, ⟨ws', hQ, hP', hD'⟩, hz, hk2⟩, stp⟩ := hr p e s m args below meth c H locs A ls S r hl T hT X
  cases hv
  rw [h0] at hz hk2
  have hF : ∀ q, va_A ws H.size q → A q := by
    intro q hq
    rcases hq with ⟨i, en, hq⟩ | hq
    · exact r.2.1.2 i _ hq
    · exact S.2.2.2.2.2.1 q (Nat.le_trans r.2.2.1 hq)
  obtain ⟨t2, a1, b1⟩ := kk ws' hQ p e s m args below meth c T'.heap (locs ++ L) A Z ls S ⟨by rw [e1]; exact hP', hD'.weaken (fun _ q _ h => hF q.1 h), Nat.le_trans r.2.2.1 (by rw [e1]; exact hz), fun q h1 h2 => by rw [e1, hk2 q (Nat.lt_of_lt_of_le h1 r.2.2.1) (fun z => h2 (hF q z))]; exact r.2.2.2.1 q h1 h2, fun q hq => by
      rcases List.mem_append.mp hq with hq | hq
      · exact r.2.2.2.2 q hq
      · exact hF _ (hL q hq)⟩ hl hE T' rfl X'
  exact ⟨t2, stp t2 a1, b1⟩
theorem PmW.pre {g : GG} {s U : State} {H : Heap} {A : Nat → Prop} {H0 : Heap} {locs : List Loc} {argv : List Value} (hU : U.heap = H) (hW : s.WarmedH U.vm) (hK : wk g s) (r : Rw g A H0 ws H locs) : PmW g ws argv H.size argv.toArray U := ⟨rfl, by rw [hU], by rw [hU]; exact r.1, r.2.1.weaken (fun _ _ _ _ => trivial), hK.warm hW⟩
def RokI (rm R : Room) (mL mc ms k n : Nat) : Prop := (rm.cells = mc ∧ rm.slots = ms) ∧ (rm.frames + 1 ≤ R.frames ∧ 8 + (mL + 11) + rm.locals ≤ R.locals) ∧ k + mc ≤ R.cells ∧ n + ms ≤ R.slots
theorem V_callI {y : MethodName} {bytes : ByteArray} {mL np idx a mc ms : Nat} {rm : Room} {As : List Value} {Qp : va_W → Prop} (hC : CtW (xl x) (xg x) y bytes mL rm (.ref a :: As) ws Qp mc ms) (ok : MOk y bytes mL none np) (hi : y.name = "<init>") (hin : Cond.instanceMethod y ∈ tb_l) (hlk : Cond.methodLink (xow x) idx y ∈ tb_l) (hR : RokI rm (xR x) mL mc ms k n) (hn : As.length = np) (hst : st = As.reverse ++ .ref a :: rest) (hw : (rest.map fun v => v.category).sum ≤ 8) (hd : decode (xcc x) pc = .ok (.invokespecial idx, 3)) (kk : ∀ ws', Qp ws' → Vw x (k + mc) (n + ms) (pc + 3) lv rest ws') : Vw x k n pc lv st ws := by
  refine V_runW (aa := (Value.ref a :: As).toArray) (fun p e s m args below meth c H locs A ls S r hl => ?_) kk
  have hts := S.2.2.2.2.1.2.hts args
  exact va_runI (As := As) ⟨S.1, S.2.1, S.2.2.1, S.2.2.2.1, hts⟩ (hC H.size) ⟨callB_of np hts (good_code ok.1) rfl hR.1.1 hR.1.2 (hts _ ok.2.1) (hts _ hlk) ok.2.2 hR.2.1, hi, hts _ hin⟩ ⟨PmW.blind, fun U hU hW => PmW.pre hU hW S.2.2.2.2.1 r⟩ rfl hn hl.1 hst (lv_room hw) hd hR.2.2
theorem V_callIN {y : MethodName} {host : String} {bytes : ByteArray} {mL np idx a mc ms : Nat} {rm : Room} {As : List Value} {Qp : va_W → Prop} (hC : CtW (xl x) (xg x) y bytes mL rm (.ref a :: As) ws Qp mc ms) (ok : MOk y bytes mL none np) (hi : y.name = "<init>") (hin : Cond.instanceMethod y ∈ tb_l) (hlk : Cond.methodLinkNest (xow x) idx y host ∈ tb_l) (hR : RokI rm (xR x) mL mc ms k n) (hn : As.length = np) (hst : st = As.reverse ++ .ref a :: rest) (hw : (rest.map fun v => v.category).sum ≤ 8) (hd : decode (xcc x) pc = .ok (.invokespecial idx, 3)) (kk : ∀ ws', Qp ws' → Vw x (k + mc) (n + ms) (pc + 3) lv rest ws') : Vw x k n pc lv st ws := by
  refine V_runW (aa := (Value.ref a :: As).toArray) (fun p e s m args below meth c H locs A ls S r hl => ?_) kk
  have hts := S.2.2.2.2.1.2.hts args
  exact va_runIN (As := As) ⟨S.1, S.2.1, S.2.2.1, S.2.2.2.1, hts⟩ (hC H.size) ⟨va_cnB np hts (good_code ok.1) rfl hR.1.1 hR.1.2 (S.2.2.2.2.1.2 _ hlk) (hts _ ok.2.1) ok.2.2 hR.2.1, hi, hts _ hin⟩ ⟨PmW.blind, fun U hU hW => PmW.pre hU hW S.2.2.2.2.1 r⟩ rfl hn hl.1 hst (lv_room hw) hd hR.2.2
end MAKES
