/-! contracts over the abstract heap, and the calls that use them -/
def Pm (g : GG) (ad : Nat → Nat) (h : HP) (argv : List Value) (sz : Nat) : Array Value → State → Prop := va_Pc argv (fun U => U.heap.size = sz ∧ va_P g.1 cl_s (pic g ad h) U.heap ∧ va_D (fun _ => True) (pic g ad h) ∧ wk g U)
def Qm (g : GG) (ad : Nat → Nat) (h : HP) (sz : Nat) (v : Option Value) (h' : HP) : Array Value → State → Outcome → State → Prop := fun _ st oc t => oc = .returned v ∧ va_P g.1 cl_s (pic g ad h') t.heap ∧ va_F (va_A (pic g ad h) sz) st t
def Ct (l : Launch) (g : GG) (ad : Nat → Nat) (y : MethodName) (bytes : ByteArray) (mL : Nat) (ret : Option FieldType) (R : Room) (argv : List Value) (h : HP) (v : Option Value) (h' : HP) : Prop := ∀ sz, Met l y [.code y bytes mL ret] R (Pm g ad h argv sz) (Qm g ad h sz v h') 0 0 (va_A (pic g ad h) sz)
def CM {γ : Type} (l : Launch) (g : GG) (ad : Nat → Nat) (y : MethodName) (bytes : ByteArray) (mL : Nat) (ret : Option FieldType) (R : Room) (argv : List Value) (h : HP) (enc : γ → Option Value × HP) (o : Option γ) : Prop := ∀ a, o = some a → Ct l g ad y bytes mL ret R argv h (enc a).1 (enc a).2
def enI (q : Int32 × HP) : Option Value × HP := (some (.int q.1), q.2)
def enL (q : Int64 × HP) : Option Value × HP := (some (.long q.1), q.2)
def enV (h : HP) : Option Value × HP := (none, h)
def enA (v : Nat) (h : HP) : Option Value × HP := (some (.ref v), h)
theorem Pm.blind {g : GG} {ad : Nat → Nat} {h : HP} {argv : List Value} {sz : Nat} : FrameBlind (Pm g ad h argv sz) := fun _ _ _ _ q => ⟨q.1, q.2.1, q.2.2.1, q.2.2.2.1, wk.calling q.2.2.2.2⟩
/-- a body's walk gives the contract -/
theorem Ct.of {l : Launch} {g : GG} {ad : Nat → Nat} {y : MethodName} {bytes : ByteArray} {mL : Nat} {ret : Option FieldType} {R : Room} {argv : List Value} {h : HP} {v : Option Value} {h' : HP} (hy : plainName y.cls = true) (hlen : (lg_sl argv).length ≤ mL)
    (hV : Vw (l, g, none, R, y.cls, bytes, mL, false, 0, 0, fun v2 ws => v2 = v ∧ ws = pic g ad h', ret) 0 0 0 (lv_args 0 argv) [] (pic g ad h)) : Ct l g ad y bytes mL ret R argv h v h' := by
  intro sz
  refine Met.ofW (cc := bytes) (maxL := mL) (ret := ret) hy rfl ?_
  intro p e s m args below meth c s₁ B hml hv
  obtain ⟨rfl, hsz, hP, hD0, hK⟩ := hv
  have hr := B.returns
  have hlocks := B.notSynchronized
  rw [lg_entry_eq]
  have hSf : Sf (l, g, none, R, y.cls, bytes, mL, false, 0, 0, fun v2 ws => v2 = v ∧ ws = pic g ad h', ret) p s m argv.toArray meth c (va_A (pic g ad h) sz) := by
    refine ⟨B.exec, B.bytes, hml, findClass_of_methodNamed B.named, hK, fun q hq => Or.inr (by rw [← hsz]; exact hq), ?_, ?_⟩
    · intro hh
      have h2 : false = true := hh
      cases h2
    · intro b1 L1 xs1 hh
      have h2 : (none : Option (Nat × Nat × (Nat → Int32))) = some (b1, L1, xs1) := hh
      cases h2
  refine hV p e s m _ below meth c s.heap [] (va_A (pic g ad h) sz) _ _ hSf ⟨hP, hD0.self, va_S.rf⟩ (lv_entry argv hlen) ?_
  intro v' ws' H' locs' ls' pc' hQ hR hret
  obtain ⟨rfl, rfl⟩ := hQ
  have hq : ∀ t : State, t.heap = H' → s.WarmedH t.vm → Qm g ad h sz v' h' argv.toArray s (.returned v') t := fun t ht _ => ⟨rfl, by rw [ht]; exact hR.1, hR.2.2.F ht⟩
  rcases hret with ⟨r, rfl, hd, ty, hty, hn⟩ | ⟨r, rfl, hd, hty⟩ | ⟨a, C, rfl, hd, hty⟩ | ⟨rfl, hd, hty⟩
  · exact W.zret B.exec B.bytes (hr.trans hty) hn hq hR.2.2.2.2 hd
  · exact W.lret B.exec B.bytes (hr.trans hty) hq hR.2.2.2.2 hd
  · exact W.aret B.exec B.bytes (hr.trans hty) (Or.inl ⟨_, rfl⟩) (Or.inr ⟨_, rfl⟩) hq hR.2.2.2.2 hd
  · exact W.vret B.exec B.bytes (hr.trans hty) hq hR.2.2.2.2 hd
theorem CM.of {γ : Type} {l : Launch} {g : GG} {ad : Nat → Nat} {y : MethodName} {bytes : ByteArray} {mL : Nat} {ret : Option FieldType} {R : Room} {argv : List Value} {h : HP} {enc : γ → Option Value × HP} {o : Option γ} (hy : plainName y.cls = true) (hlen : (lg_sl argv).length ≤ mL)
    (hV : ∀ Q, Jj (fun a => Q (enc a).1 (pic g ad (enc a).2)) o (Vw (l, g, none, R, y.cls, bytes, mL, false, 0, 0, Q, ret) 0 0 0 (lv_args 0 argv) [] (pic g ad h))) : CM l g ad y bytes mL ret R argv h enc o := fun a ha => Ct.of hy hlen (hV _ ⟨a, ha, rfl, rfl⟩)
/-- what a caller must know of a method: its words -/
def MOk (y : MethodName) (bytes : ByteArray) (mL : Nat) (ret : Option FieldType) (np : Nat) : Prop := Cond.code y bytes mL ret ∈ tb_l ∧ Cond.initialized y.cls ∈ tb_l ∧ y.cls ≠ "java/lang/invoke/MethodHandle" ∧ y.cls ≠ "java/lang/invoke/VarHandle" ∧ (parseMethodDescriptor y.desc).map (fun d => d.parameters.length) = some np
def Rok (rm R : Room) (mL : Nat) : Prop := rm.cells = 0 ∧ rm.slots = 0 ∧ rm.frames + 1 ≤ R.frames ∧ 8 + (mL + 11) + rm.locals ≤ R.locals
theorem good_code {y : MethodName} {bytes : ByteArray} {mL : Nat} {ret : Option FieldType} (h : Cond.code y bytes mL ret ∈ tb_l) : GoodIn tb_l [.code y bytes mL ret] := by
  intro w hw
  rw [List.mem_singleton.mp hw]
  exact ⟨h, Or.inl rfl⟩
section CROWS
variable {x : KX} {k n pc : Nat} {lv : List (Nat × Value)} {st rest : List Value} {α β : Type} {X : α → Prop} {o : Option α} {ad : Nat → Nat} {h h' : HP}
variable {y : MethodName} {bytes : ByteArray} {mL : Nat} {ret : Option FieldType} {np : Nat} {rm : Room} {argv : List Value} {v : Option Value} {idx : Nat}
theorem V_run {aa : Array Value} (hr : ∀ p e s m args below meth c H locs A ls, Sf x p s m args meth c A → Rw (xg x) A s.heap (pic (xg x) ad h) H locs → lv_has ls (xnL x) lv → va_Run p (xl x) e (xR x) s m args below meth c H locs k n 0 0 (F0 m pc ls st) rest (Qm (xg x) ad h H.size v h' aa) (va_A (pic (xg x) ad h) H.size)) (kk : Vw x k n (pc + 3) lv (v.toList ++ rest) (pic (xg x) ad h')) : Vw x k n pc lv st (pic (xg x) ad h) := by
  intro p e s m args below meth c H locs A Z ls S r hl hE T hT X
  obtain ⟨v', st₀, t, T', L, h0, X', hL, e1, e2, ⟨hv, hP', hz, hk2⟩, stp⟩ := hr p e s m args below meth c H locs A ls S r hl T hT X
  cases hv
  rw [h0] at hz hk2
  have hF : ∀ q, va_A (pic (xg x) ad h) H.size q → A q := by
    intro q hq
    rcases hq with ⟨i, en, hq⟩ | hq
    · exact r.2.1.2 i _ hq
    · exact S.2.2.2.2.2.1 q (Nat.le_trans r.2.2.1 hq)
  obtain ⟨t2, a1, b1⟩ := kk p e s m args below meth c T'.heap (locs ++ L) A Z ls S ⟨by rw [e1]; exact hP', pic_D r.2.1, Nat.le_trans r.2.2.1 (by rw [e1]; exact hz), fun q h1 h2 => by rw [e1, hk2 q (Nat.lt_of_lt_of_le h1 r.2.2.1) (fun z => h2 (hF q z))]; exact r.2.2.2.1 q h1 h2, fun q hq => by
      rcases List.mem_append.mp hq with hq | hq
      · exact r.2.2.2.2 q hq
      · exact hF _ (hL q hq)⟩ hl hE T' rfl X'
  exact ⟨t2, stp t2 a1, b1⟩
theorem Pm.pre {g : GG} {s U : State} {H : Heap} {A : Nat → Prop} {H0 : Heap} {locs : List Loc} (hU : U.heap = H) (hW : s.WarmedH U.vm) (hK : wk g s) (r : Rw g A H0 (pic g ad h) H locs) : Pm g ad h argv H.size argv.toArray U := ⟨rfl, by rw [hU], by rw [hU]; exact r.1, r.2.1.weaken (fun _ _ _ _ => trivial), hK.warm hW⟩
theorem cb_ {R : Room} {s : State} {args : Array Value} {own : String} (hts : ∀ w ∈ tb_l, w.before args s = true) (ok : MOk y bytes mL ret np) (hlk : Cond.methodLink own idx y ∈ tb_l) (hR : Rok rm R mL) : CallB R s args own idx y bytes mL ret [.code y bytes mL ret] rm 0 0 np :=
  callB_of np hts (good_code ok.1) rfl hR.1 hR.2.1 (hts _ ok.2.1) (hts _ hlk) ok.2.2 hR.2.2
def Ckn (x : KX) (k n : Nat) : Prop := k + 0 ≤ (xR x).cells ∧ n + 0 ≤ (xR x).slots
theorem V_callS (hC : Ct (xl x) (xg x) ad y bytes mL ret rm argv h v h') (ok : MOk y bytes mL ret np) (hs : Cond.static y ∈ tb_l) (hlk : Cond.methodLink (xow x) idx y ∈ tb_l) (hR : Rok rm (xR x) mL) (hkn : Ckn x k n) (hn : argv.length = np) (hst : st = argv.reverse ++ rest) (hw : (rest.map fun v => v.category).sum ≤ 8) (hd : decode (xcc x) pc = .ok (.invokestatic idx, 3)) (kk : Vw x k n (pc + 3) lv (v.toList ++ rest) (pic (xg x) ad h')) : Vw x k n pc lv st (pic (xg x) ad h) := by
  refine V_run (aa := argv.toArray) (fun p e s m args below meth c H locs A ls S r hl => ?_) kk
  have hts := S.2.2.2.2.1.2.hts args
  exact va_runS (As := argv) ⟨S.1, S.2.1, S.2.2.1, S.2.2.2.1, hts⟩ (hC H.size) ⟨cb_ hts ok hlk hR, hts _ hs⟩ ⟨Pm.blind, fun U hU hW => Pm.pre hU hW S.2.2.2.2.1 r⟩ rfl hn hl.1 hst (lv_room hw) hd hkn
theorem V_callSN {host : String} (hC : Ct (xl x) (xg x) ad y bytes mL ret rm argv h v h') (ok : MOk y bytes mL ret np) (hs : Cond.static y ∈ tb_l) (hlk : Cond.methodLinkNest (xow x) idx y host ∈ tb_l) (hR : Rok rm (xR x) mL) (hkn : Ckn x k n) (hn : argv.length = np) (hst : st = argv.reverse ++ rest) (hw : (rest.map fun v => v.category).sum ≤ 8) (hd : decode (xcc x) pc = .ok (.invokestatic idx, 3)) (kk : Vw x k n (pc + 3) lv (v.toList ++ rest) (pic (xg x) ad h')) : Vw x k n pc lv st (pic (xg x) ad h) := by
  refine V_run (aa := argv.toArray) (fun p e s m args below meth c H locs A ls S r hl => ?_) kk
  have hts := S.2.2.2.2.1.2.hts args
  exact va_runSN (As := argv) ⟨S.1, S.2.1, S.2.2.1, S.2.2.2.1, hts⟩ (hC H.size) ⟨va_cnB np hts (good_code ok.1) rfl hR.1 hR.2.1 (S.2.2.2.2.1.2 _ hlk) (hts _ ok.2.1) ok.2.2 hR.2.2, hts _ hs, trivial⟩ ⟨Pm.blind, fun U hU hW => Pm.pre hU hW S.2.2.2.2.1 r⟩ rfl hn hl.1 hst (lv_room hw) hd hkn
/-- the receiver: a cell that is an object of the class of that name -/
def Rcv (a : Nat) (C : String) : Prop := a < nc_c ∧ kd a < 20 ∧ ∃ q, cl_s[kd a]? = some q ∧ q.1 = C
theorem Rcv.use {g : GG} {s : State} {H : Heap} {A : Nat → Prop} {H0 : Heap} {locs : List Loc} {a : Nat} {C : String} (h1 : Rcv a C) (hK : wk g s) (r : Rw g A H0 (pic g ad h) H locs) : ∃ cell : Cell, H[ad a]? = some cell ∧ cell.vm.isStatics = false ∧ s.vm.findClass C = some cell.cls := by
  obtain ⟨ha, hk, q, hq, rfl⟩ := h1
  exact va_recv hK.1 r.1 hq (by rw [pic_get ha, ce_obj hk])
theorem V_callV {a : Nat} {As : List Value} (hC : Ct (xl x) (xg x) ad y bytes mL ret rm (.ref (ad a) :: As) h v h') (ok : MOk y bytes mL ret np) (hrc : Rcv a y.cls) (hs : Cond.instanceMethod y ∈ tb_l) (hse : Cond.selects y.cls y y ∈ tb_l) (hlk : Cond.methodLink (xow x) idx y ∈ tb_l) (hR : Rok rm (xR x) mL) (hkn : Ckn x k n) (hn : As.length = np) (hst : st = As.reverse ++ .ref (ad a) :: rest) (hw : (rest.map fun v => v.category).sum ≤ 8) (hd : decode (xcc x) pc = .ok (.invokevirtual idx, 3)) (kk : Vw x k n (pc + 3) lv (v.toList ++ rest) (pic (xg x) ad h')) : Vw x k n pc lv st (pic (xg x) ad h) := by
  refine V_run (aa := (Value.ref (ad a) :: As).toArray) (fun p e s m args below meth c H locs A ls S r hl => ?_) kk
  have hts := S.2.2.2.2.1.2.hts args
  exact va_runV (As := As) (C := y.cls) ⟨S.1, S.2.1, S.2.2.1, S.2.2.2.1, hts⟩ (hC H.size) ⟨cb_ hts ok hlk hR, hts _ hs, hts _ hse⟩ ⟨Pm.blind, hrc.use S.2.2.2.2.1 r, fun U hU hW => Pm.pre hU hW S.2.2.2.2.1 r⟩ rfl hn hl.1 hst (lv_room hw) hd hkn
/-- a private method of the superclass is selected on an object of a subclass -/
theorem sel_up {args : Array Value} {s : State} {C : String} {y : MethodName} {n : Nat} (hins : (Cond.instantiable C n).before args s = true) (hsame : (Cond.sameMethod y.cls y.cls y.name y.desc).before args s = true) (hpriv : (Cond.privateMethod y).before args s = true) (hinst : (Cond.instanceMethod y).before args s = true) : (Cond.selects C y y).before args s = true := by
  obtain ⟨c, k, hc, hk, -⟩ := Cond.instantiable_spec hins
  obtain ⟨cn, ck, r, hcn, hck, hni, hf, hn⟩ := Cond.sameMethod_found hsame
  obtain ⟨mq, methM, hnamed, hmethM, -, -⟩ := Cond.instanceMethod_spec hinst
  have hn2 : s.methodNamed? y = some r := hn
  have e0 : mq = r := Option.some.inj (hnamed.symm.trans hn2)
  subst e0
  have hcls : mq.cls = cn := Option.some.inj ((findClass_of_methodNamed hnamed).symm.trans hcn)
  have hsel : selectMethod {} s.vm c mq = .method mq := selectMethod_private hmethM (Cond.privateMethod_at hpriv mq methM hnamed hmethM)
  simp only [Cond.before, Cond.holds, Cond.value, hc, hf, hnamed, hsel, hcls, hck]
  simp; exact hni
/-- the words of a call whose method is named through the superclass x0.cls and found, or overridden, as y on the receiver's class C -/
def UOk (C : String) (x0 y : MethodName) : Prop := Cond.sameMethod x0.cls x0.cls x0.name x0.desc ∈ tb_l ∧ Cond.instanceMethod y ∈ tb_l ∧ (Cond.selects C x0 y ∈ tb_l ∨ (x0 = y ∧ (∃ n, Cond.instantiable C n ∈ tb_l) ∧ Cond.privateMethod y ∈ tb_l)) ∧ (x0 = y ∨ Cond.declares x0 ∈ tb_l) ∧ (x0.cls ≠ "java/lang/invoke/MethodHandle" ∧ x0.cls ≠ "java/lang/invoke/VarHandle") ∧ x0.desc = y.desc
theorem V_callU {a : Nat} {C : String} {x0 : MethodName} {As : List Value} (hC : Ct (xl x) (xg x) ad y bytes mL ret rm (.ref (ad a) :: As) h v h') (ok : MOk y bytes mL ret np) (hrc : Rcv a C) (hu : UOk C x0 y) (hlk : Cond.methodLink (xow x) idx x0 ∈ tb_l) (hR : Rok rm (xR x) mL) (hkn : Ckn x k n) (hn : As.length = np) (hst : st = As.reverse ++ .ref (ad a) :: rest) (hw : (rest.map fun v => v.category).sum ≤ 8) (hd : decode (xcc x) pc = .ok (.invokevirtual idx, 3)) (kk : Vw x k n (pc + 3) lv (v.toList ++ rest) (pic (xg x) ad h')) : Vw x k n pc lv st (pic (xg x) ad h) := by
  refine V_run (aa := (Value.ref (ad a) :: As).toArray) (fun p e s m args below meth c H locs A ls S r hl => ?_) kk
  have hts := S.2.2.2.2.1.2.hts args
  obtain ⟨hsm, hin, hse, hde, hmh, hdesc⟩ := hu
  have hsel : (Cond.selects C x0 y).before args s = true := by
    rcases hse with hse | ⟨rfl, ⟨nn, hins⟩, hpr⟩
    · exact hts _ hse
    · exact sel_up (hts _ hins) (hts _ hsm) (hts _ hpr) (hts _ hin)
  have hdecl : va_Decl s ⟨x0.cls, x0.name, x0.desc⟩ := by
    rcases hde with rfl | hde
    · exact va_Decl.of (hts _ hin) (hts _ ok.1)
    · exact va_Decl.abs (S.2.2.2.2.1.2 _ hde)
  refine va_runU (As := As) (C := C) (owner := x0.cls) ⟨S.1, S.2.1, S.2.2.1, S.2.2.2.1, hts⟩ (hC H.size) ⟨⟨hR.1, hR.2.1, hR.2.2.1, hR.2.2.2, pay_in hts (good_code ok.1), List.mem_singleton.mpr rfl⟩, hts _ ok.1, hts _ ok.2.1, hmh, fun sig hsig => ?_, hts _ hlk, hts _ hsm, hdecl, hsel, hts _ hin⟩ ⟨Pm.blind, hrc.use S.2.2.2.2.1 r, fun U hU hW => Pm.pre hU hW S.2.2.2.2.1 r⟩ rfl hn hl.1 hst (lv_room hw) hd hkn
  have h2 := ok.2.2.2.2
  rw [← hdesc, hsig] at h2
  exact (Option.some.inj h2).symm
/-! the same, guarded: a call in front of a computation -/
theorem J_call {γ : Type} {enc : γ → Option Value × HP} {o1 : Option γ} {f : γ → Option α} {P : Prop} (hm : CM (xl x) (xg x) ad y bytes mL ret rm argv h enc o1) (hv : ∀ a, Ct (xl x) (xg x) ad y bytes mL ret rm argv h (enc a).1 (enc a).2 → Vw x k n (pc + 3) lv ((enc a).1.toList ++ rest) (pic (xg x) ad (enc a).2) → P) (kk : ∀ a, Jj X (f a) (Vw x k n (pc + 3) lv ((enc a).1.toList ++ rest) (pic (xg x) ad (enc a).2))) : Jj X (bd1 o1 f) P := by
  intro ⟨a, hb, hx⟩
  cases o1 with
  | none => cases hb
  | some q => exact hv q (hm q rfl) (kk q ⟨a, hb, hx⟩)
end CROWS
section CROWS2
variable {x : KX} {k n pc : Nat} {lv : List (Nat × Value)} {st rest : List Value} {α β : Type} {X : α → Prop} {o : Option α} {ad : Nat → Nat} {h h' : HP}
variable {y : MethodName} {bytes : ByteArray} {mL : Nat} {ret : Option FieldType} {np : Nat} {rm : Room} {argv : List Value} {idx : Nat}
theorem J_callSi {o1 : Option (Int32 × HP)} {f : Int32 → HP → Option α} (hm : CM (xl x) (xg x) ad y bytes mL ret rm argv h enI o1) (ok : MOk y bytes mL ret np) (hs : Cond.static y ∈ tb_l) (hlk : Cond.methodLink (xow x) idx y ∈ tb_l) (hR : Rok rm (xR x) mL) (hkn : Ckn x k n) (hn : argv.length = np) (hst : st = argv.reverse ++ rest) (hw : (rest.map fun v => v.category).sum ≤ 8) (hd : decode (xcc x) pc = .ok (.invokestatic idx, 3)) (kk : ∀ r h', Jj X (f r h') (Vw x k n (pc + 3) lv (.int r :: rest) (pic (xg x) ad h'))) : Jj X (bd2 o1 f) (Vw x k n pc lv st (pic (xg x) ad h)) := J_call hm (fun a hC hv => V_callS hC ok hs hlk hR hkn hn hst hw hd hv) (fun q => kk q.1 q.2)
theorem J_callSl {o1 : Option (Int64 × HP)} {f : Int64 → HP → Option α} (hm : CM (xl x) (xg x) ad y bytes mL ret rm argv h enL o1) (ok : MOk y bytes mL ret np) (hs : Cond.static y ∈ tb_l) (hlk : Cond.methodLink (xow x) idx y ∈ tb_l) (hR : Rok rm (xR x) mL) (hkn : Ckn x k n) (hn : argv.length = np) (hst : st = argv.reverse ++ rest) (hw : (rest.map fun v => v.category).sum ≤ 8) (hd : decode (xcc x) pc = .ok (.invokestatic idx, 3)) (kk : ∀ r h', Jj X (f r h') (Vw x k n (pc + 3) lv (.long r :: rest) (pic (xg x) ad h'))) : Jj X (bd2 o1 f) (Vw x k n pc lv st (pic (xg x) ad h)) := J_call hm (fun a hC hv => V_callS hC ok hs hlk hR hkn hn hst hw hd hv) (fun q => kk q.1 q.2)
theorem J_callSv {o1 : Option (HP)} {f : HP → Option α} (hm : CM (xl x) (xg x) ad y bytes mL ret rm argv h enV o1) (ok : MOk y bytes mL ret np) (hs : Cond.static y ∈ tb_l) (hlk : Cond.methodLink (xow x) idx y ∈ tb_l) (hR : Rok rm (xR x) mL) (hkn : Ckn x k n) (hn : argv.length = np) (hst : st = argv.reverse ++ rest) (hw : (rest.map fun v => v.category).sum ≤ 8) (hd : decode (xcc x) pc = .ok (.invokestatic idx, 3)) (kk : ∀ h', Jj X (f h') (Vw x k n (pc + 3) lv rest (pic (xg x) ad h'))) : Jj X (bd1 o1 f) (Vw x k n pc lv st (pic (xg x) ad h)) := J_call hm (fun a hC hv => V_callS hC ok hs hlk hR hkn hn hst hw hd hv) (fun q => kk q)
theorem J_callSNi {host : String} {o1 : Option (Int32 × HP)} {f : Int32 → HP → Option α} (hm : CM (xl x) (xg x) ad y bytes mL ret rm argv h enI o1) (ok : MOk y bytes mL ret np) (hs : Cond.static y ∈ tb_l) (hlk : Cond.methodLinkNest (xow x) idx y host ∈ tb_l) (hR : Rok rm (xR x) mL) (hkn : Ckn x k n) (hn : argv.length = np) (hst : st = argv.reverse ++ rest) (hw : (rest.map fun v => v.category).sum ≤ 8) (hd : decode (xcc x) pc = .ok (.invokestatic idx, 3)) (kk : ∀ r h', Jj X (f r h') (Vw x k n (pc + 3) lv (.int r :: rest) (pic (xg x) ad h'))) : Jj X (bd2 o1 f) (Vw x k n pc lv st (pic (xg x) ad h)) := J_call hm (fun a hC hv => V_callSN hC ok hs hlk hR hkn hn hst hw hd hv) (fun q => kk q.1 q.2)
theorem J_callSNv {host : String} {o1 : Option (HP)} {f : HP → Option α} (hm : CM (xl x) (xg x) ad y bytes mL ret rm argv h enV o1) (ok : MOk y bytes mL ret np) (hs : Cond.static y ∈ tb_l) (hlk : Cond.methodLinkNest (xow x) idx y host ∈ tb_l) (hR : Rok rm (xR x) mL) (hkn : Ckn x k n) (hn : argv.length = np) (hst : st = argv.reverse ++ rest) (hw : (rest.map fun v => v.category).sum ≤ 8) (hd : decode (xcc x) pc = .ok (.invokestatic idx, 3)) (kk : ∀ h', Jj X (f h') (Vw x k n (pc + 3) lv rest (pic (xg x) ad h'))) : Jj X (bd1 o1 f) (Vw x k n pc lv st (pic (xg x) ad h)) := J_call hm (fun a hC hv => V_callSN hC ok hs hlk hR hkn hn hst hw hd hv) (fun q => kk q)
theorem J_callVi {a : Nat} {As : List Value} {o1 : Option (Int32 × HP)} {f : Int32 → HP → Option α} (hm : CM (xl x) (xg x) ad y bytes mL ret rm (.ref (ad a) :: As) h enI o1) (ok : MOk y bytes mL ret np) (hrc : Rcv a y.cls) (hs : Cond.instanceMethod y ∈ tb_l) (hse : Cond.selects y.cls y y ∈ tb_l) (hlk : Cond.methodLink (xow x) idx y ∈ tb_l) (hR : Rok rm (xR x) mL) (hkn : Ckn x k n) (hn : As.length = np) (hst : st = As.reverse ++ .ref (ad a) :: rest) (hw : (rest.map fun v => v.category).sum ≤ 8) (hd : decode (xcc x) pc = .ok (.invokevirtual idx, 3)) (kk : ∀ r h', Jj X (f r h') (Vw x k n (pc + 3) lv (.int r :: rest) (pic (xg x) ad h'))) : Jj X (bd2 o1 f) (Vw x k n pc lv st (pic (xg x) ad h)) := J_call hm (fun a hC hv => V_callV hC ok hrc hs hse hlk hR hkn hn hst hw hd hv) (fun q => kk q.1 q.2)
theorem J_callVl {a : Nat} {As : List Value} {o1 : Option (Int64 × HP)} {f : Int64 → HP → Option α} (hm : CM (xl x) (xg x) ad y bytes mL ret rm (.ref (ad a) :: As) h enL o1) (ok : MOk y bytes mL ret np) (hrc : Rcv a y.cls) (hs : Cond.instanceMethod y ∈ tb_l) (hse : Cond.selects y.cls y y ∈ tb_l) (hlk : Cond.methodLink (xow x) idx y ∈ tb_l) (hR : Rok rm (xR x) mL) (hkn : Ckn x k n) (hn : As.length = np) (hst : st = As.reverse ++ .ref (ad a) :: rest) (hw : (rest.map fun v => v.category).sum ≤ 8) (hd : decode (xcc x) pc = .ok (.invokevirtual idx, 3)) (kk : ∀ r h', Jj X (f r h') (Vw x k n (pc + 3) lv (.long r :: rest) (pic (xg x) ad h'))) : Jj X (bd2 o1 f) (Vw x k n pc lv st (pic (xg x) ad h)) := J_call hm (fun a hC hv => V_callV hC ok hrc hs hse hlk hR hkn hn hst hw hd hv) (fun q => kk q.1 q.2)
theorem J_callVv {a : Nat} {As : List Value} {o1 : Option (HP)} {f : HP → Option α} (hm : CM (xl x) (xg x) ad y bytes mL ret rm (.ref (ad a) :: As) h enV o1) (ok : MOk y bytes mL ret np) (hrc : Rcv a y.cls) (hs : Cond.instanceMethod y ∈ tb_l) (hse : Cond.selects y.cls y y ∈ tb_l) (hlk : Cond.methodLink (xow x) idx y ∈ tb_l) (hR : Rok rm (xR x) mL) (hkn : Ckn x k n) (hn : As.length = np) (hst : st = As.reverse ++ .ref (ad a) :: rest) (hw : (rest.map fun v => v.category).sum ≤ 8) (hd : decode (xcc x) pc = .ok (.invokevirtual idx, 3)) (kk : ∀ h', Jj X (f h') (Vw x k n (pc + 3) lv rest (pic (xg x) ad h'))) : Jj X (bd1 o1 f) (Vw x k n pc lv st (pic (xg x) ad h)) := J_call hm (fun a hC hv => V_callV hC ok hrc hs hse hlk hR hkn hn hst hw hd hv) (fun q => kk q)
theorem J_callVa {a : Nat} {As : List Value} {vv : Nat} {o1 : Option (HP)} {f : HP → Option α} (hm : CM (xl x) (xg x) ad y bytes mL ret rm (.ref (ad a) :: As) h (enA vv) o1) (ok : MOk y bytes mL ret np) (hrc : Rcv a y.cls) (hs : Cond.instanceMethod y ∈ tb_l) (hse : Cond.selects y.cls y y ∈ tb_l) (hlk : Cond.methodLink (xow x) idx y ∈ tb_l) (hR : Rok rm (xR x) mL) (hkn : Ckn x k n) (hn : As.length = np) (hst : st = As.reverse ++ .ref (ad a) :: rest) (hw : (rest.map fun v => v.category).sum ≤ 8) (hd : decode (xcc x) pc = .ok (.invokevirtual idx, 3)) (kk : ∀ h', Jj X (f h') (Vw x k n (pc + 3) lv (.ref vv :: rest) (pic (xg x) ad h'))) : Jj X (bd1 o1 f) (Vw x k n pc lv st (pic (xg x) ad h)) := J_call hm (fun a hC hv => V_callV hC ok hrc hs hse hlk hR hkn hn hst hw hd hv) (fun q => kk q)
theorem J_callUi {a : Nat} {C : String} {x0 : MethodName} {As : List Value} {o1 : Option (Int32 × HP)} {f : Int32 → HP → Option α} (hm : CM (xl x) (xg x) ad y bytes mL ret rm (.ref (ad a) :: As) h enI o1) (ok : MOk y bytes mL ret np) (hrc : Rcv a C) (hu : UOk C x0 y) (hlk : Cond.methodLink (xow x) idx x0 ∈ tb_l) (hR : Rok rm (xR x) mL) (hkn : Ckn x k n) (hn : As.length = np) (hst : st = As.reverse ++ .ref (ad a) :: rest) (hw : (rest.map fun v => v.category).sum ≤ 8) (hd : decode (xcc x) pc = .ok (.invokevirtual idx, 3)) (kk : ∀ r h', Jj X (f r h') (Vw x k n (pc + 3) lv (.int r :: rest) (pic (xg x) ad h'))) : Jj X (bd2 o1 f) (Vw x k n pc lv st (pic (xg x) ad h)) := J_call hm (fun a hC hv => V_callU hC ok hrc hu hlk hR hkn hn hst hw hd hv) (fun q => kk q.1 q.2)
theorem J_callUv {a : Nat} {C : String} {x0 : MethodName} {As : List Value} {o1 : Option (HP)} {f : HP → Option α} (hm : CM (xl x) (xg x) ad y bytes mL ret rm (.ref (ad a) :: As) h enV o1) (ok : MOk y bytes mL ret np) (hrc : Rcv a C) (hu : UOk C x0 y) (hlk : Cond.methodLink (xow x) idx x0 ∈ tb_l) (hR : Rok rm (xR x) mL) (hkn : Ckn x k n) (hn : As.length = np) (hst : st = As.reverse ++ .ref (ad a) :: rest) (hw : (rest.map fun v => v.category).sum ≤ 8) (hd : decode (xcc x) pc = .ok (.invokevirtual idx, 3)) (kk : ∀ h', Jj X (f h') (Vw x k n (pc + 3) lv rest (pic (xg x) ad h'))) : Jj X (bd1 o1 f) (Vw x k n pc lv st (pic (xg x) ad h)) := J_call hm (fun a hC hv => V_callU hC ok hrc hu hlk hR hkn hn hst hw hd hv) (fun q => kk q)
end CROWS2
