/-! contracts over the abstract heap, and the calls that use them -/
def Pm (g : GG) (ad : Nat → Nat) (h : HP) (argv : List Value) (sz : Nat) : Array Value → State → Prop := va_Pc argv (fun U => U.heap.size = sz ∧ va_P g.1 cl_s (pic g ad h) U.heap ∧ va_D (fun _ => True) (pic g ad h) ∧ wk g U)
def Qm (g : GG) (ad : Nat → Nat) (h : HP) (sz : Nat) (v : Option Value) (h' : HP) : Array Value → State → Outcome → State → Prop := fun _ st oc t => oc = .returned v ∧ va_P g.1 cl_s (pic g ad h') t.heap ∧ va_F (va_A (pic g ad h) sz) st t
def Ct (l : Launch) (g : GG) (ad : Nat → Nat) (y : MethodName) (bytes : ByteArray) (mL : Nat) (ret : Option FieldType) (R : Room) (argv : List Value) (h : HP) (v : Option Value) (h' : HP) : Prop := ∀ sz, Met l y [.code y bytes mL ret] R (Pm g ad h argv sz) (Qm g ad h sz v h') 0 0 (va_A (pic g ad h) sz)
def CM {γ : Type} (l : Launch) (g : GG) (ad : Nat → Nat) (y : MethodName) (bytes : ByteArray) (mL : Nat) (ret : Option FieldType) (R : Room) (argv : List Value) (h : HP) (enc : γ → Option Value × HP) (o : Option γ) : Prop := ∀ a, o = some a → Ct l g ad y bytes mL ret R argv h (enc a).1 (enc a).2
def enI (q : Int32 × HP) : Option Value × HP := (some (.int q.1), q.2)
def enL (q : Int64 × HP) : Option Value × HP := (some (.long q.1), q.2)
def enV (h : HP) : Option Value × HP := (none, h)
def enA (v : Nat) (h : HP) : Option Value × HP := (some (.ref v), h)
theorem Pm.blind {g : GG} {ad : Nat → Nat} {h : HP} {argv : List Value} {sz : Nat} : FrameBlind (Pm g ad h argv sz) := fun _ _ _ _ q => ⟨q.1, q.2.1, q.2.2.1, q.2.2.2.1, wk.calling q.2.2.2.2⟩
/-- a body's walk gives the contract -/
theorem Ct.of {l : Launch} {g : GG} {ad : Nat → Nat} {y : MethodName} {bytes : ByteArray} {mL : Nat} {ret : Option FieldType} {R : Room} {argv : List Value} {h : HP} {v : Option Value} {h' : HP} (hy : plainName y.cls = true) (hlen : (lg_sl argv).length ≤ mL)
    (hV : Vw (l, g, none, R, y.cls, bytes, mL, false, 0, 0, fun v2 ws => v2 = v ∧ ws = pic g ad h', ret) 0 0 0 (lv_args 0 argv) [] (pic g ad h)) : Ct l g ad y bytes mL ret R argv h v h' := by
  intro sz
  refine Met.ofW (cc := bytes) (maxL := mL) (ret := ret) hy rfl ?_
  intro p e s m args below meth c s₁ B hml hv
  obtain ⟨rfl, hsz, hP, hD0, hK⟩ := hv
  have hr := B.returns
  have hlocks := B.notSynchronized
  rw [lg_entry_eq]
  have hSf : Sf (l, g, none, R, y.cls, bytes, mL, false, 0, 0, fun v2 ws => v2 = v ∧ ws = pic g ad h', ret) p s m argv.toArray meth c (va_A (pic g ad h) sz) := by
    refine ⟨B.exec, B.bytes, hml, findClass_of_methodNamed B.named, hK, fun q hq => Or.inr (by rw [← hsz]; exact hq), ?_, ?_⟩
    · intro hh
      have h2 : false = true := hh
      cases h2
    · intro b1 L1 xs1 hh
      have h2 : (none : Option (Nat × Nat × (Nat → Int32))) = some (b1, L1, xs1) := hh
      cases h2
  refine hV p e s m _ below meth c s.heap [] (va_A (pic g ad h) sz) _ _ hSf ⟨hP, hD0.self, va_S.rf⟩ (lv_entry argv hlen) ?_
  intro v' ws' H' locs' ls' pc' hQ hR hret
  obtain ⟨rfl, rfl⟩ := hQ
  have hq : ∀ t : State, t.heap = H' → s.WarmedH t.vm → Qm g ad h sz v' h' argv.toArray s (.returned v') t := fun t ht _ => ⟨rfl, by rw [ht]; exact hR.1, hR.2.2.F ht⟩
  rcases hret with ⟨r, rfl, hd, ty, hty, hn⟩ | ⟨r, rfl, hd, hty⟩ | ⟨a, C, rfl, hd, hty⟩ | ⟨rfl, hd, hty⟩
  · exact W.zret B.exec B.bytes (hr.trans hty) hn hq hR.2.2.2.2 hd
  · exact W.lret B.exec B.bytes (hr.trans hty) hq hR.2.2.2.2 hd
  · exact W.aret B.exec B.bytes (hr.trans hty) (Or.inl ⟨_, rfl⟩) (Or.inr ⟨_, rfl⟩) hq hR.2.2.2.2 hd
  · exact W.vret B.exec B.bytes (hr.trans hty) hq hR.2.2.2.2 hd
theorem CM.of {γ : Type} {l : Launch} {g : GG} {ad : Nat → Nat} {y : MethodName} {bytes : ByteArray} {mL : Nat} {ret : Option FieldType} {R : Room} {argv : List Value} {h : HP} {enc : γ → Option Value × HP} {o : Option γ} (hy : plainName y.cls = true) (hlen : (lg_sl argv).length ≤ mL)
    (hV : ∀ Q, Jj (fun a => Q (enc a).1 (pic g ad (enc a).2)) o (Vw (l, g, none, R, y.cls, bytes, mL, false, 0, 0, Q, ret) 0 0 0 (lv_args 0 argv) [] (pic g ad h))) : CM l g ad y bytes mL ret R argv h enc o := fun a ha => Ct.of hy hlen (hV _ ⟨a, ha, rfl, rfl⟩)
/-- what a caller must know of a method: its words -/
def MOk (y : MethodName) (bytes : ByteArray) (mL : Nat) (ret : Option FieldType) (np : Nat) : Prop := Cond.code y bytes mL ret ∈ tb_l ∧ Cond.initialized y.cls ∈ tb_l ∧ y.cls ≠ "java/lang/invoke/MethodHandle" ∧ y.cls ≠ "java/lang/invoke/VarHandle" ∧ (parseMethodDescriptor y.desc).map (fun d => d.parameters.length) = some np
def Rok (rm R : Room) (mL : Nat) : Prop := rm.cells = 0 ∧ rm.slots = 0 ∧ rm.frames + 1 ≤ R.frames ∧ 8 + (mL + 11) + rm.locals ≤ R.locals
theorem good_code {y : MethodName} {bytes : ByteArray} {mL : Nat} {ret : Option FieldType} (h : Cond.code y bytes mL ret ∈ tb_l) : GoodIn tb_l [.code y bytes mL ret] := by
  intro w hw
  rw [List.mem_singleton.mp hw]
  exact ⟨h, Or.inl rfl⟩
section CROWS
variable {x : KX} {k n pc : Nat} {lv : List (Nat × Value)} {st rest : List Value} {α β : Type} {X : α → Prop} {o : Option α} {ad : Nat → Nat} {h h' : HP}
variable {y : MethodName} {bytes : ByteArray} {mL : Nat} {ret : Option FieldType} {np : Nat} {rm : Room} {argv : List Value} {v : Option Value} {idx : Nat}
theorem V_run {aa : Array Value} (hr : ∀ p e s m args below meth c H locs A ls, Sf x p s m args meth c A → Rw (xg x) A s.heap (pic (xg x) ad h) H locs → lv_has ls (xnL x) lv → va_Run p (xl x) e (xR x) s m args below meth c H locs k n 0 0 (F0 m pc ls st) rest (Qm (xg x) ad h H.size v h' aa) (va_A (pic (xg x) ad h) H.size)) (kk : Vw x k n (pc + 3) lv (v.toList ++ rest) (pic (xg x) ad h')) : Vw x k n pc lv st (pic (xg x) ad h) := by
  intro p e s m args below meth c H locs A Z ls S r hl hE T hT X
  obtain ⟨v', st₀, t, T', L, h0, X', hL, e1, e2, ⟨hv, hP', hz, hk2⟩, stp⟩ := hr p e s m args below meth c H locs A ls S r hl T hT X
  cases hv
  rw [h0] at hz hk2
  have hF : ∀ q, va_A (pic (xg x) ad h) H.size q → A q := by
    intro q hq
    rcases hq with ⟨i, en, hq⟩ | hq
    · exact r.2.1.2 i _ hq
    · exact S.2.2.2.2.2.1 q (Nat.le_trans r.2.2.1 hq)
  obtain ⟨t2, a1, b1⟩ := kk p e s m args below meth c T'.heap (locs ++ L) A Z ls S ⟨by rw [e1]; exact hP', pic_D r.2.1, Nat.le_trans r.2.2.1 (by rw [e1]; exact hz), fun q h1 h2 => by rw [e1, hk2 q (Nat.lt_of_lt_of_le h1 r.2.2.1) (fun z => h2 (hF q z))]; exact r.2.2.2.1 q h1 h2, fun q hq => by
      rcases List.mem_append.mp hq with hq | hq
      · exact r.2.2.2.2 q hq
      · exact hF _ (hL q hq)⟩ hl hE T' rfl X'
  exact ⟨t2, stp t2 a1, b1⟩
theorem Pm.pre {g : GG} {s U : State} {H : Heap} {A : Nat → Prop} {H0 : Heap} {locs : List Loc} (hU : U.heap = H) (hW : s.WarmedH U.vm) (hK : wk g s) (r : Rw g A H0 (pic g ad h) H locs) : Pm g ad h argv H.size argv.toArray U := ⟨rfl, by rw [hU], by rw [hU]; exact r.1, r.2.1.weaken (fun _ _ _ _ => trivial), hK.warm hW⟩
theorem cb_ {R : Room} {s : State} {args : Array Value} {own : String} (hts : ∀ w ∈ tb_l, w.before args s = true) (ok : MOk y bytes mL ret np) (hlk : Cond.methodLink own idx y ∈ tb_l) (hR : Rok rm R mL) : CallB R s args own idx y bytes mL ret [.code y bytes mL ret] rm 0 0 np :=
  callB_of np hts (good_code ok.1) rfl hR.1 hR.2.1 (hts _ ok.2.1) (hts _ hlk) ok.2.2 hR.2.2
def Ckn (x : KX) (k n : Nat) : Prop := k + 0 ≤ (xR x).cells ∧ n + 0 ≤ (xR x).slots
theorem V_callS (hC : Ct (xl x) (xg x) ad y bytes mL ret rm argv h v h') (ok : MOk y bytes mL ret np) (hs : Cond.static y ∈ tb_l) (hlk : Cond.methodLink (xow x) idx y ∈ tb_l) (hR : Rok rm (xR x) mL) (hkn : Ckn x k n) (hn : argv.length = np) (hst : st = argv.reverse ++ rest) (hw : (rest.map fun v => v.category).sum ≤ 8) (hd : decode (xcc x) pc = .ok (.invokestatic idx, 3)) (kk : Vw x k n (pc + 3) lv (v.toList ++ rest) (pic (xg x) ad h')) : Vw x k n pc lv st (pic (xg x) ad h) := by
  refine V_run (aa := argv.toArray) (fun p e s m args below meth c H locs A ls S r hl => ?_) kk
  have hts := S.2.2.2.2.1.2.hts args
  exact va_runS (As := argv) ⟨S.1, S.2.1, S.2.2.1, S.2.2.2.1, hts⟩ (hC H.size) ⟨cb_ hts ok hlk hR, hts _ hs⟩ ⟨Pm.blind, fun U hU hW => Pm.pre hU hW S.2.2.2.2.1 r⟩ rfl hn hl.1 hst (lv_room hw) hd hkn
theorem V_callSN {host : String} (hC : Ct (xl x) (xg x) ad y bytes mL ret rm argv h v h') (ok : MOk y bytes mL ret np) (hs : Cond.static y ∈ tb_l) (hlk : Cond.methodLinkNest (xow x) idx y host ∈ tb_l) (hR : Rok rm (xR x) mL) (hkn : Ckn x k n) (hn : argv.length = np) (hst : st = argv.reverse ++ rest) (hw : (rest.map fun v => v.category).sum ≤ 8) (hd : decode (xcc x) pc = .ok (.invokestatic idx, 3)) (kk : Vw x k n (pc + 3) lv (v.toList ++ rest) (pic (xg x) ad h')) : Vw x k n pc lv st (pic (xg x) ad h) := by
  refine V_run (aa := argv.toArray) (fun p e s m args below meth c H locs A ls S r hl => ?_) kk
  have hts := S.2.2.2.2.1.2.hts args
  exact va_runSN (As := argv) ⟨S.1, S.2.1, S.2.2.1, S.2.2.2.1, hts⟩ (hC H.size) ⟨va_cnB np hts (good_code ok.1) rfl hR.1 hR.2.1 (S.2.2.2.2.1.2 _ hlk) (hts _ ok.2.1) ok.2.2 hR.2.2, hts _ hs, trivial⟩ ⟨Pm.blind, fun U hU hW => Pm.pre hU hW S.2.2.2.2.1 r⟩ rfl hn hl.1 hst (lv_room hw) hd hkn
/-- the receiver: a cell that is an object of the class of that name -/
def Rcv (a : Nat) (C : String) : Prop := a < nc_c ∧ kd a < 20 ∧ ∃ q, cl_s[kd a]? = some q ∧ q.1 = C
theorem Rcv.use {g : GG} {s : State} {H : Heap} {A : Nat → Prop} {H0 : Heap} {locs : List Loc} {a : Nat} {C : String} (h1 : Rcv a C) (hK : wk g s) (r : Rw g A H0 (pic g ad h) H locs) : ∃ cell : Cell, H[ad a]? = some cell ∧ cell.vm.isStatics = false ∧ s.vm.findClass C = some cell.cls := by
  obtain ⟨ha, hk, q, hq, rfl⟩ := h1
  exact va_recv hK.1 r.1 hq (by rw [pic_get ha, ce_obj hk])
theorem V_callV {a : Nat} {As : List Value} (hC : Ct (xl x) (xg x) ad y bytes mL ret rm (.ref (ad a) :: As) h v h') (ok : MOk y bytes mL ret np) (hrc : Rcv a y.cls) (hs : Cond.instanceMethod y ∈ tb_l) (hse : Cond.selects y.cls y y ∈ tb_l) (hlk : Cond.methodLink (xow x) idx y ∈ tb_l) (hR : Rok rm (xR x) mL) (hkn : Ckn x k n) (hn : As.length = np) (hst : st = As.reverse ++ .ref (ad a) :: rest) (hw : (rest.map fun v => v.category).sum ≤ 8) (hd : decode (xcc x) pc = .ok (.invokevirtual idx, 3)) (kk : Vw x k n (pc + 3) lv (v.toList ++ rest) (pic (xg x) ad h')) : Vw x k n pc lv st (pic (xg x) ad h) := by
  refine V_run (aa := (Value.ref (ad a) :: As).toArray) (fun p e s m args below meth c H locs A ls S r hl => ?_) kk
  have hts := S.2.2.2.2.1.2.hts args
  exact va_runV (As := As) (C := y.cls) ⟨S.1, S.2.1, S.2.2.1, S.2.2.2.1, hts⟩ (hC H.size) ⟨cb_ hts ok hlk hR, hts _ hs, hts _ hse⟩ ⟨Pm.blind, hrc.use S.2.2.2.2.1 r, fun U hU hW => Pm.pre hU hW S.2.2.2.2.1 r⟩ rfl hn hl.1 hst (lv_room hw) hd hkn
/-- a private method of the superclass is selected on an object of a subclass -/
theorem sel_up {args : Array Value} {s : State} {C : String} {y : MethodName} {n : Nat} (hins : (Cond.instantiable C n).before args s = true) (hsame : (Cond.sameMethod y.cls y.cls y.name y.desc).before args s = true) (hpriv : (Cond.privateMethod y).before args s = true) (hinst : (Cond.instanceMethod y).before args s = true) : (Cond.selects C y y).before args s = true := by
  obtain ⟨c, k, hc, hk, -⟩ := Cond.instantiable_spec hins
  obtain ⟨cn, ck, r, hcn, hck, hni, hf, hn⟩ := Cond.sameMethod_found hsame
  obtain ⟨mq, methM, hnamed, hmethM, -, -⟩ := Cond.instanceMethod_spec hinst
  have hn2 : s.methodNamed? y = some r := hn
  have e0 : mq = r := Option.some.inj (hnamed.symm.trans hn2)
  subst e0
  have hcls : mq.cls = cn := Option.some.inj ((findClass_of_methodNamed hnamed).symm.trans hcn)
  have hsel : selectMethod {} s.vm c mq = .method mq := selectMethod_private hmethM (Cond.privateMethod_at hpriv mq methM hnamed hmethM)
  simp only [Cond.before, Cond.holds, Cond.value, hc, hf, hnamed, hsel, hcls, hck]
  simp; exact hni
/-- the words of a call whose method is named through the superclass x0.cls and found, or overridden, as y on the receiver's class C -/
def UOk (C : String) (x0 y : MethodName) : Prop := Cond.sameMethod x0.cls x0.cls x0.name x0.desc ∈ tb_l ∧ Cond.instanceMethod y ∈ tb_l ∧ Cond.selects C x0 y ∈ tb_l ∧ (x0 = y ∨ Cond.declares x0 ∈ tb_l) ∧ (x0.cls ≠ "java/lang/invoke/MethodHandle" ∧ x0.cls ≠ "java/lang/invoke/VarHandle") ∧ x0.desc = y.desc
theorem V_callU {a : Nat} {C : String} {x0 : MethodName} {As : List Value} (hC : Ct (xl x) (xg x) ad y bytes mL ret rm (.ref (ad a) :: As) h v h') (ok : MOk y bytes mL ret np) (hrc : Rcv a C) (hu : UOk C x0 y) (hlk : Cond.methodLink (xow x) idx x0 ∈ tb_l) (hR : Rok rm (xR x) mL) (hkn : Ckn x k n) (hn : As.length = np) (hst : st = As.reverse ++ .ref (ad a) :: rest) (hw : (rest.map fun v => v.category).sum ≤ 8) (hd : decode (xcc x) pc = .ok (.invokevirtual idx, 3)) (kk : Vw x k n (pc + 3) lv (v.toList ++ rest) (pic (xg x) ad h')) : Vw x k n pc lv st (pic (xg x) ad h) := by
  refine V_run (aa := (Value.ref (ad a) :: As).toArray) (fun p e s m args below meth c H locs A ls S r hl => ?_) kk
  have hts := S.2.2.2.2.1.2.hts args
  obtain ⟨hsm, hin, hse, hde, hmh, hdesc⟩ := hu
  have hsel : (Cond.selects C x0 y).before args s = true := hts _ hse
  have hdecl : va_Decl s ⟨x0.cls, x0.name, x0.desc⟩ := by
    rcases hde with rfl | hde
    · exact va_Decl.of (hts _ hin) (hts _ ok.1)
    · exact va_Decl.abs (S.2.2.2.2.1.2 _ hde)
  refine va_runU (As := As) (C := C) (owner := x0.cls) ⟨S.1, S.2.1, S.2.2.1, S.2.2.2.1, hts⟩ (hC H.size) ⟨⟨hR.1, hR.2.1, hR.2.2.1, hR.2.2.2, pay_in hts (good_code ok.1), List.mem_singleton.mpr rfl⟩, hts _ ok.1, hts _ ok.2.1, hmh, fun sig hsig => ?_, hts _ hlk, hts _ hsm, hdecl, hsel, hts _ hin⟩ ⟨Pm.blind, hrc.use S.2.2.2.2.1 r, fun U hU hW => Pm.pre hU hW S.2.2.2.2.1 r⟩ rfl hn hl.1 hst (lv_room hw) hd hkn
  have h2 := ok.2.2.2.2
  rw [← hdesc, hsig] at h2
  exact (Option.some.inj h2).symm
/-! the same, guarded: a call in front of a computation -/
theorem J_call {γ : Type} {enc : γ → Option Value × HP} {o1 : Option γ} {f : γ → Option α} {P : Prop} (hm : CM (xl x) (xg x) ad y bytes mL ret rm argv h enc o1) (hv : ∀ a, Ct (xl x) (xg x) ad y bytes mL ret rm argv h (enc a).1 (enc a).2 → Vw x k n (pc + 3) lv ((enc a).1.toList ++ rest) (pic (xg x) ad (enc a).2) → P) (kk : ∀ a, Jj X (f a) (Vw x k n (pc + 3) lv ((enc a).1.toList ++ rest) (pic (xg x) ad (enc a).2))) : Jj X (bd1 o1 f) P := by
  intro ⟨a, hb, hx⟩
  cases o1 with
  | none => cases hb
  | some q => exact hv q (hm q rfl) (kk q ⟨a, hb, hx⟩)
end CROWS
section CROWS2
variable {x : KX} {k n pc : Nat} {lv : List (Nat × Value)} {st rest : List Value} {α β : Type} {X : α → Prop} {o : Option α} {ad : Nat → Nat} {h h' : HP}
variable {y : MethodName} {bytes : ByteArray} {mL : Nat} {ret : Option FieldType} {np : Nat} {rm : Room} {argv : List Value} {idx : Nat}
theorem J_callSi {o1 : Option (Int32 × HP)} {f : Int32 → HP → Option α} (hm : CM (xl x) (xg x) ad y bytes mL ret rm argv h enI o1) (ok : MOk y bytes mL ret np) (hs : Cond.static y ∈ tb_l) (hlk : Cond.methodLink (xow x) idx y ∈ tb_l) (hR : Rok rm (xR x) mL) (hkn : Ckn x k n) (hn : argv.length = np) (hst : st = argv.reverse ++ rest) (hw : (rest.map fun v => v.category).sum ≤ 8) (hd : decode (xcc x) pc = .ok (.invokestatic idx, 3)) (kk : ∀ r h', Jj X (f r h') (Vw x k n (pc + 3) lv (.int r :: rest) (pic (xg x) ad h'))) : Jj X (bd2 o1 f) (Vw x k n pc lv st (pic (xg x) ad h)) := J_call hm (fun a hC hv => V_callS hC ok hs hlk hR hkn hn hst hw hd hv) (fun q => kk q.1 q.2)
theorem J_callSl {o1 : Option (Int64 × HP)} {f : Int64 → HP → Option α} (hm : CM (xl x) (xg x) ad y bytes mL ret rm argv h enL o1) (ok : MOk y bytes mL ret np) (hs : Cond.static y ∈ tb_l) (hlk : Cond.methodLink (xow x) idx y ∈ tb_l) (hR : Rok rm (xR x) mL) (hkn : Ckn x k n) (hn : argv.length = np) (hst : st = argv.reverse ++ rest) (hw : (rest.map fun v => v.category).sum ≤ 8) (hd : decode (xcc x) pc = .ok (.invokestatic idx, 3)) (kk : ∀ r h', Jj X (f r h') (Vw x k n (pc + 3) lv (.long r :: rest) (pic (xg x) ad h'))) : Jj X (bd2 o1 f) (Vw x k n pc lv st (pic (xg x) ad h)) := J_call hm (fun a hC hv => V_callS hC ok hs hlk hR hkn hn hst hw hd hv) (fun q => kk q.1 q.2)
theorem J_callSv {o1 : Option (HP)} {f : HP → Option α} (hm : CM (xl x) (xg x) ad y bytes mL ret rm argv h enV o1) (ok : MOk y bytes mL ret np) (hs : Cond.static y ∈ tb_l) (hlk : Cond.methodLink (xow x) idx y ∈ tb_l) (hR : Rok rm (xR x) mL) (hkn : Ckn x k n) (hn : argv.length = np) (hst : st = argv.reverse ++ rest) (hw : (rest.map fun v => v.category).sum ≤ 8) (hd : decode (xcc x) pc = .ok (.invokestatic idx, 3)) (kk : ∀ h', Jj X (f h') (Vw x k n (pc + 3) lv rest (pic (xg x) ad h'))) : Jj X (bd1 o1 f) (Vw x k n pc lv st (pic (xg x) ad h)) := J_call hm (fun a hC hv => V_callS hC ok hs hlk hR hkn hn hst hw hd hv) (fun q => kk q)
theorem J_callSNi {host : String} {o1 : Option (Int32 × HP)} {f : Int32 → HP → Option α} (hm : CM (xl x) (xg x) ad y bytes mL ret rm argv h enI o1) (ok : MOk y bytes mL ret np) (hs : Cond.static y ∈ tb_l) (hlk : Cond.methodLinkNest (xow x) idx y host ∈ tb_l) (hR : Rok rm (xR x) mL) (hkn : Ckn x k n) (hn : argv.length = np) (hst : st = argv.reverse ++ rest) (hw : (rest.map fun v => v.category).sum ≤ 8) (hd : decode (xcc x) pc = .ok (.invokestatic idx, 3)) (kk : ∀ r h', Jj X (f r h') (Vw x k n (pc + 3) lv (.int r :: rest) (pic (xg x) ad h'))) : Jj X (bd2 o1 f) (Vw x k n pc lv st (pic (xg x) ad h)) := J_call hm (fun a hC hv => V_callSN hC ok hs hlk hR hkn hn hst hw hd hv) (fun q => kk q.1 q.2)
theorem J_callSNv {host : String} {o1 : Option (HP)} {f : HP → Option α} (hm : CM (xl x) (xg x) ad y bytes mL ret rm argv h enV o1) (ok : MOk y bytes mL ret np) (hs : Cond.static y ∈ tb_l) (hlk : Cond.methodLinkNest (xow x) idx y host ∈ tb_l) (hR : Rok rm (xR x) mL) (hkn : Ckn x k n) (hn : argv.length = np) (hst : st = argv.reverse ++ rest) (hw : (rest.map fun v => v.category).sum ≤ 8) (hd : decode (xcc x) pc = .ok (.invokestatic idx, 3)) (kk : ∀ h', Jj X (f h') (Vw x k n (pc + 3) lv rest (pic (xg x) ad h'))) : Jj X (bd1 o1 f) (Vw x k n pc lv st (pic (xg x) ad h)) := J_call hm (fun a hC hv => V_callSN hC ok hs hlk hR hkn hn hst hw hd hv) (fun q => kk q)
theorem J_callVi {a : Nat} {As : List Value} {o1 : Option (Int32 × HP)} {f : Int32 → HP → Option α} (hm : CM (xl x) (xg x) ad y bytes mL ret rm (.ref (ad a) :: As) h enI o1) (ok : MOk y bytes mL ret np) (hrc : Rcv a y.cls) (hs : Cond.instanceMethod y ∈ tb_l) (hse : Cond.selects y.cls y y ∈ tb_l) (hlk : Cond.methodLink (xow x) idx y ∈ tb_l) (hR : Rok rm (xR x) mL) (hkn : Ckn x k n) (hn : As.length = np) (hst : st = As.reverse ++ .ref (ad a) :: rest) (hw : (rest.map fun v => v.category).sum ≤ 8) (hd : decode (xcc x) pc = .ok (.invokevirtual idx, 3)) (kk : ∀ r h', Jj X (f r h') (Vw x k n (pc + 3) lv (.int r :: rest) (pic (xg x) ad h'))) : Jj X (bd2 o1 f) (Vw x k n pc lv st (pic (xg x) ad h)) := J_call hm (fun a hC hv => V_callV hC ok hrc hs hse hlk hR hkn hn hst hw hd hv) (fun q => kk q.1 q.2)
theorem J_callVl {a : Nat} {As : List Value} {o1 : Option (Int64 × HP)} {f : Int64 → HP → Option α} (hm : CM (xl x) (xg x) ad y bytes mL ret rm (.ref (ad a) :: As) h enL o1) (ok : MOk y bytes mL ret np) (hrc : Rcv a y.cls) (hs : Cond.instanceMethod y ∈ tb_l) (hse : Cond.selects y.cls y y ∈ tb_l) (hlk : Cond.methodLink (xow x) idx y ∈ tb_l) (hR : Rok rm (xR x) mL) (hkn : Ckn x k n) (hn : As.length = np) (hst : st = As.reverse ++ .ref (ad a) :: rest) (hw : (rest.map fun v => v.category).sum ≤ 8) (hd : decode (xcc x) pc = .ok (.invokevirtual idx, 3)) (kk : ∀ r h', Jj X (f r h') (Vw x k n (pc + 3) lv (.long r :: rest) (pic (xg x) ad h'))) : Jj X (bd2 o1 f) (Vw x k n pc lv st (pic (xg x) ad h)) := J_call hm (fun a hC hv => V_callV hC ok hrc hs hse hlk hR hkn hn hst hw hd hv) (fun q => kk q.1 q.2)
theorem J_callVv {a : Nat} {As : List Value} {o1 : Option (HP)} {f : HP → Option α} (hm : CM (xl x) (xg x) ad y bytes mL ret rm (.ref (ad a) :: As) h enV o1) (ok : MOk y bytes mL ret np) (hrc : Rcv a y.cls) (hs : Cond.instanceMethod y ∈ tb_l) (hse : Cond.selects y.cls y y ∈ tb_l) (hlk : Cond.methodLink (xow x) idx y ∈ tb_l) (hR : Rok rm (xR x) mL) (hkn : Ckn x k n) (hn : As.length = np) (hst : st = As.reverse ++ .ref (ad a) :: rest) (hw : (rest.map fun v => v.category).sum ≤ 8) (hd : decode (xcc x) pc = .ok (.invokevirtual idx, 3)) (kk : ∀ h', Jj X (f h') (Vw x k n (pc + 3) lv rest (pic (xg x) ad h'))) : Jj X (bd1 o1 f) (Vw x k n pc lv st (pic (xg x) ad h)) := J_call hm (fun a hC hv => V_callV hC ok hrc hs hse hlk hR hkn hn hst hw hd hv) (fun q => kk q)
theorem J_callVa {a : Nat} {As : List Value} {vv : Nat} {o1 : Option (HP)} {f : HP → Option α} (hm : CM (xl x) (xg x) ad y bytes mL ret rm (.ref (ad a) :: As) h (enA vv) o1) (ok : MOk y bytes mL ret np) (hrc : Rcv a y.cls) (hs : Cond.instanceMethod y ∈ tb_l) (hse : Cond.selects y.cls y y ∈ tb_l) (hlk : Cond.methodLink (xow x) idx y ∈ tb_l) (hR : Rok rm (xR x) mL) (hkn : Ckn x k n) (hn : As.length = np) (hst : st = As.reverse ++ .ref (ad a) :: rest) (hw : (rest.map fun v => v.category).sum ≤ 8) (hd : decode (xcc x) pc = .ok (.invokevirtual idx, 3)) (kk : ∀ h', Jj X (f h') (Vw x k n (pc + 3) lv (.ref vv :: rest) (pic (xg x) ad h'))) : Jj X (bd1 o1 f) (Vw x k n pc lv st (pic (xg x) ad h)) := J_call hm (fun a hC hv => V_callV hC ok hrc hs hse hlk hR hkn hn hst hw hd hv) (fun q => kk q)
theorem J_callUi {a : Nat} {C : String} {x0 : MethodName} {As : List Value} {o1 : Option (Int32 × HP)} {f : Int32 → HP → Option α} (hm : CM (xl x) (xg x) ad y bytes mL ret rm (.ref (ad a) :: As) h enI o1) (ok : MOk y bytes mL ret np) (hrc : Rcv a C) (hu : UOk C x0 y) (hlk : Cond.methodLink (xow x) idx x0 ∈ tb_l) (hR : Rok rm (xR x) mL) (hkn : Ckn x k n) (hn : As.length = np) (hst : st = As.reverse ++ .ref (ad a) :: rest) (hw : (rest.map fun v => v.category).sum ≤ 8) (hd : decode (xcc x) pc = .ok (.invokevirtual idx, 3)) (kk : ∀ r h', Jj X (f r h') (Vw x k n (pc + 3) lv (.int r :: rest) (pic (xg x) ad h'))) : Jj X (bd2 o1 f) (Vw x k n pc lv st (pic (xg x) ad h)) := J_call hm (fun a hC hv => V_callU hC ok hrc hu hlk hR hkn hn hst hw hd hv) (fun q => kk q.1 q.2)
theorem J_callUv {a : Nat} {C : String} {x0 : MethodName} {As : List Value} {o1 : Option (HP)} {f : HP → Option α} (hm : CM (xl x) (xg x) ad y bytes mL ret rm (.ref (ad a) :: As) h enV o1) (ok : MOk y bytes mL ret np) (hrc : Rcv a C) (hu : UOk C x0 y) (hlk : Cond.methodLink (xow x) idx x0 ∈ tb_l) (hR : Rok rm (xR x) mL) (hkn : Ckn x k n) (hn : As.length = np) (hst : st = As.reverse ++ .ref (ad a) :: rest) (hw : (rest.map fun v => v.category).sum ≤ 8) (hd : decode (xcc x) pc = .ok (.invokevirtual idx, 3)) (kk : ∀ h', Jj X (f h') (Vw x k n (pc + 3) lv rest (pic (xg x) ad h'))) : Jj X (bd1 o1 f) (Vw x k n pc lv st (pic (xg x) ad h)) := J_call hm (fun a hC hv => V_callU hC ok hrc hu hlk hR hkn hn hst hw hd hv) (fun q => kk q)
end CROWS2
/-! rows in the shape that the printed methods use -/
def rI (h : HP) (a j : Nat) : Int32 := h.1 a j
def rL (h : HP) (a j : Nat) : Int64 := h.2.1 a j
def rA (h : HP) (a : Nat) (i : Int32) : Int32 := h.1 a i.toNatClampNeg
def wA (h : HP) (a : Nat) (i v : Int32) : HP := sI h a i.toNatClampNeg v
def rf1 (a j : Nat) : Nat := ((fdl a).getD j (0, 0)).2
def z01 (v : Int32) : Bool := decide (v = 0 ∨ v = 1)
theorem z01_or {v : Int32} (h : z01 v = true) : v = 0 ∨ v = 1 := by
  unfold z01 at h
  exact of_decide_eq_true h
theorem me2 {P : Nat → Prop} {p q a : Nat} (h : a ∈ [p, q]) (h1 : P p) (h2 : P q) : P a := by
  simp only [List.mem_cons, List.not_mem_nil, or_false] at h
  rcases h with rfl | rfl <;> assumption
theorem me4 {P : Nat → Prop} {p q r s a : Nat} (h : a ∈ [p, q, r, s]) (h1 : P p) (h2 : P q) (h3 : P r) (h4 : P s) : P a := by
  simp only [List.mem_cons, List.not_mem_nil, or_false] at h
  rcases h with rfl | rfl | rfl | rfl <;> assumption
theorem me5 {P : Nat → Prop} {p q r s t a : Nat} (h : a ∈ [p, q, r, s, t]) (h1 : P p) (h2 : P q) (h3 : P r) (h4 : P s) (h5 : P t) : P a := by
  simp only [List.mem_cons, List.not_mem_nil, or_false] at h
  rcases h with rfl | rfl | rfl | rfl | rfl <;> assumption
theorem mR_only : ∀ b i x, (b ≠ 54 ∨ i ≠ 2) → (fdl b)[i]? = some x → x.1 ≠ 3 := by
  intro b i x hn hx h3
  have hb : ∀ b : Nat, b < 72 → ∀ i : Nat, i < (fdl b).length → (b = 54 ∧ i = 2) ∨ ((fdl b).getD i (0, 0)).1 ≠ 3 := by decide +kernel
  have hi : i < (fdl b).length := (List.getElem?_eq_some_iff.mp hx).1
  by_cases hlt : b < 72
  · rcases hb b hlt i hi with ⟨h1, h2⟩ | h4
    · rcases hn with hn | hn
      · exact hn h1
      · exact hn h2
    · apply h4
      rw [List.getD_eq_getElem?_getD, hx]
      exact h3
  · have hz : fdl b = [] := by
      unfold fdl
      rw [List.getD_eq_getElem?_getD, List.getElem?_eq_none (by simp only [fd_l, List.length_cons, List.length_nil]; omega)]
      rfl
    rw [hz] at hi
    exact absurd hi (Nat.not_lt_zero _)
theorem mR_le : ∀ b, (fdl b).all (fun x => decide (x.1 ≤ 3)) = true := by
  intro b
  have hb : ∀ b : Nat, b < 72 → (fdl b).all (fun x => decide (x.1 ≤ 3)) = true := by decide +kernel
  by_cases hlt : b < 72
  · exact hb b hlt
  · have hz : fdl b = [] := by
      unfold fdl
      rw [List.getD_eq_getElem?_getD, List.getElem?_eq_none (by simp only [fd_l, List.length_cons, List.length_nil]; omega)]
      rfl
    rw [hz]
    rfl
section PROWS
variable {x : KX} {k n pc : Nat} {lv : List (Nat × Value)} {st : List Value} {α : Type} {X : α → Prop} {o : Option α} {ad : Nat → Nat} {h : HP}
theorem P_gI {idx a j t : Nat} {fin : Bool} {f : Int32 → Option α} (hF : FOk (xow x) idx a j .int fin) (hf : (fdl a)[j]? = some (0, t)) (hd : decode (xcc x) pc = .ok (.getfield idx, 3)) (kk : ∀ v, Jj X (f v) (Vw x k n (pc + 3) lv (.int v :: st) (pic (xg x) ad h))) : Jj X (ltt (rI h a j) f) (Vw x k n pc lv (.ref (ad a) :: st) (pic (xg x) ad h)) := J_getIf hF hf hd (kk _)
theorem P_gZ {idx a j t : Nat} {f : Int32 → Option α} (hF : FOk (xow x) idx a j .boolean false) (hf : (fdl a)[j]? = some (0, t)) (hd : decode (xcc x) pc = .ok (.getfield idx, 3)) (kk : ∀ v, Jj X (f v) (Vw x k n (pc + 3) lv (.int v :: st) (pic (xg x) ad h))) : Jj X (ltt (rI h a j) f) (Vw x k n pc lv (.ref (ad a) :: st) (pic (xg x) ad h)) := J_getZ hF hf hd (kk _)
theorem P_gL {idx a j t : Nat} {f : Int64 → Option α} (hF : FOk (xow x) idx a j .long false) (hf : (fdl a)[j]? = some (1, t)) (hd : decode (xcc x) pc = .ok (.getfield idx, 3)) (kk : ∀ v, Jj X (f v) (Vw x k n (pc + 3) lv (.long v :: st) (pic (xg x) ad h))) : Jj X (ltt (rL h a j) f) (Vw x k n pc lv (.ref (ad a) :: st) (pic (xg x) ad h)) := J_getL hF hf hd (kk _)
theorem P_gRv {idx a j : Nat} {fty : FieldType} {fin : Bool} {cs : List Nat} {f : Nat → Option α} (hc : rf1 a j ∈ cs) (hF : FOk (xow x) idx a j fty fin) (hf : (fdl a)[j]? = some (2, rf1 a j)) (hd : decode (xcc x) pc = .ok (.getfield idx, 3)) (kk : ∀ v, v ∈ cs → Jj X (f v) (Vw x k n (pc + 3) lv (.ref (ad v) :: st) (pic (xg x) ad h))) : Jj X (ltt (rf1 a j) f) (Vw x k n pc lv (.ref (ad a) :: st) (pic (xg x) ad h)) := J_getR hF hf hd (kk _ hc)
theorem P_gM {idx a j t : Nat} {fty : FieldType} {fin : Bool} {cs : List Nat} {f : Nat → Option α} (hF : FOk (xow x) idx a j fty fin) (hf : (fdl a)[j]? = some (3, t)) (hd : decode (xcc x) pc = .ok (.getfield idx, 3)) (kk : ∀ v, v ∈ cs → Jj X (f v) (Vw x k n (pc + 3) lv (.ref (ad v) :: st) (pic (xg x) ad h))) : Jj X (ckk (cs.contains h.2.2) (ltt h.2.2 f)) (Vw x k n pc lv (.ref (ad a) :: st) (pic (xg x) ad h)) := J_ck (fun hb => J_getM hF hf hd (kk _ (List.contains_iff_mem.mp hb)))
theorem P_wI {idx a j t : Nat} {v : Int32} {f : HP → Option α} (hF : FOk (xow x) idx a j .int false) (hf : (fdl a)[j]? = some (0, t)) (hd : decode (xcc x) pc = .ok (.putfield idx, 3)) (kk : ∀ h', Jj X (f h') (Vw x k n (pc + 3) lv st (pic (xg x) ad h'))) : Jj X (ltt (sI h a j v) f) (Vw x k n pc lv (.int v :: .ref (ad a) :: st) (pic (xg x) ad h)) := J_putI hF hf hd (kk _)
theorem P_wZ {idx a j t : Nat} {v : Int32} {f : HP → Option α} (hv : v = 0 ∨ v = 1) (hF : FOk (xow x) idx a j .boolean false) (hf : (fdl a)[j]? = some (0, t)) (hd : decode (xcc x) pc = .ok (.putfield idx, 3)) (kk : ∀ h', Jj X (f h') (Vw x k n (pc + 3) lv st (pic (xg x) ad h'))) : Jj X (ltt (sI h a j v) f) (Vw x k n pc lv (.int v :: .ref (ad a) :: st) (pic (xg x) ad h)) := J_putZ hv hF hf hd (kk _)
theorem P_wZv {idx a j t : Nat} {v : Int32} {f : HP → Option α} (hF : FOk (xow x) idx a j .boolean false) (hf : (fdl a)[j]? = some (0, t)) (hd : decode (xcc x) pc = .ok (.putfield idx, 3)) (kk : ∀ h', Jj X (f h') (Vw x k n (pc + 3) lv st (pic (xg x) ad h'))) : Jj X (ckk (z01 v) (ltt (sI h a j v) f)) (Vw x k n pc lv (.int v :: .ref (ad a) :: st) (pic (xg x) ad h)) := J_ck (fun hb => J_putZ (z01_or hb) hF hf hd (kk _))
theorem P_wL {idx a j t : Nat} {v : Int64} {f : HP → Option α} (hF : FOk (xow x) idx a j .long false) (hf : (fdl a)[j]? = some (1, t)) (hd : decode (xcc x) pc = .ok (.putfield idx, 3)) (kk : ∀ h', Jj X (f h') (Vw x k n (pc + 3) lv st (pic (xg x) ad h'))) : Jj X (ltt (sL h a j v) f) (Vw x k n pc lv (.long v :: .ref (ad a) :: st) (pic (xg x) ad h)) := J_putL hF hf hd (kk _)
theorem P_wM {idx t v : Nat} {C : String} {f : HP → Option α} (hF : FOk (xow x) idx 54 2 (.object C) false) (hf : (fdl 54)[2]? = some (3, t)) (hd : decode (xcc x) pc = .ok (.putfield idx, 3)) (kk : ∀ h', Jj X (f h') (Vw x k n (pc + 3) lv st (pic (xg x) ad h'))) : Jj X (ltt (sR h v) f) (Vw x k n pc lv (.ref (ad v) :: .ref (ad 54) :: st) (pic (xg x) ad h)) := J_putM mR_only mR_le hF hf hd (kk _)
theorem P_ia {a N : Nat} {i : Int32} {f : Int32 → Option α} (ha : a < nc_c) (hk : kd a = 20) (hN : ln a = N) (hd : decode (xcc x) pc = .ok (.iaload, 1)) (kk : ∀ v, Jj X (f v) (Vw x k n (pc + 1) lv (.int v :: st) (pic (xg x) ad h))) : Jj X (ckk (inb i N) (ltt (rA h a i) f)) (Vw x k n pc lv (.int i :: .ref (ad a) :: st) (pic (xg x) ad h)) := J_iald ha hk hN hd (kk _)
theorem P_za {a N : Nat} {i : Int32} {f : Int32 → Option α} (ha : a < nc_c) (hk : kd a = 21) (hN : ln a = N) (hd : decode (xcc x) pc = .ok (.baload, 1)) (kk : ∀ v, Jj X (f v) (Vw x k n (pc + 1) lv (.int v :: st) (pic (xg x) ad h))) : Jj X (ckk (inb i N) (ltt (rA h a i) f)) (Vw x k n pc lv (.int i :: .ref (ad a) :: st) (pic (xg x) ad h)) := J_zald ha hk hN hd (kk _)
theorem P_wa {a N : Nat} {i v : Int32} {f : HP → Option α} (ha : a < nc_c) (hk : kd a = 20) (hN : ln a = N) (hd : decode (xcc x) pc = .ok (.iastore, 1)) (kk : ∀ h', Jj X (f h') (Vw x k n (pc + 1) lv st (pic (xg x) ad h'))) : Jj X (ckk (inb i N) (ltt (wA h a i v) f)) (Vw x k n pc lv (.int v :: .int i :: .ref (ad a) :: st) (pic (xg x) ad h)) := J_iast ha hk hN hd (kk _)
theorem P_wza {a N : Nat} {i v : Int32} {f : HP → Option α} (hv : vp_nar .boolean v = v) (ha : a < nc_c) (hk : kd a = 21) (hN : ln a = N) (hd : decode (xcc x) pc = .ok (.bastore, 1)) (kk : ∀ h', Jj X (f h') (Vw x k n (pc + 1) lv st (pic (xg x) ad h'))) : Jj X (ckk (inb i N) (ltt (wA h a i v) f)) (Vw x k n pc lv (.int v :: .int i :: .ref (ad a) :: st) (pic (xg x) ad h)) := J_zast hv ha hk hN hd (kk _)
theorem inb_lt {i : Int32} {n : Nat} (h : inb i n = true) : i.toNatClampNeg < n := Nat.not_le.mp fun q => inb_in h (Or.inr q)
theorem P_aaT {a N : Nat} {i : Int32} {cs : List Nat} {f : Nat → Option α} (hc : ∀ j, j < N → rfx a j ∈ cs) (ha : a < nc_c) (hk : kd a = 22) (hN : ln a = N) (hd : decode (xcc x) pc = .ok (.aaload, 1)) (kk : ∀ v, v ∈ cs → Jj X (f v) (Vw x k n (pc + 1) lv (.ref (ad v) :: st) (pic (xg x) ad h))) : Jj X (ckk (inb i N) (ltt (rfx a i.toNatClampNeg) f)) (Vw x k n pc lv (.int i :: .ref (ad a) :: st) (pic (xg x) ad h)) := J_aaldT ha hk hN hd (fun hb => kk _ (hc _ (inb_lt hb)))
theorem P_aaS {a N : Nat} {i : Int32} {cs : List Nat} {f : Nat → Option α} (hc : ∀ j, j < N → rfx a j ∈ cs) (ha : a < nc_c) (hk : kd a = 23) (hN : ln a = N) (hd : decode (xcc x) pc = .ok (.aaload, 1)) (kk : ∀ v, v ∈ cs → Jj X (f v) (Vw x k n (pc + 1) lv (.ref (ad v) :: st) (pic (xg x) ad h))) : Jj X (ckk (inb i N) (ltt (rfx a i.toNatClampNeg) f)) (Vw x k n pc lv (.int i :: .ref (ad a) :: st) (pic (xg x) ad h)) := J_aaldS ha hk hN hd (fun hb => kk _ (hc _ (inb_lt hb)))
theorem P_ist_n {z : Fin 4} {u : Int32} {lv' : Int32 → List (Nat × Value)} {f : Int32 → Option α} {ws : va_W} (i : Nat) (hi : (z : Nat) = i) (hn : i < xnL x) (hlv : ∀ v, (i, Value.int v) :: lv.filter (fun q => !(q.1 == i) && !(q.1 + 1 == i && q.2.category == 2)) = lv' v) (hd : decode (xcc x) pc = .ok (.istore_n z, 1)) (kk : ∀ v, Jj X (f v) (Vw x k n (pc + 1) (lv' v) st ws)) : Jj X (ltt u f) (Vw x k n pc lv (.int u :: st) ws) := J_istore_n i hi hn (hlv u) hd (kk u)
theorem P_ist {u : Int32} {i : Nat} {lv' : Int32 → List (Nat × Value)} {f : Int32 → Option α} {ws : va_W} (hn : i < xnL x) (hlv : ∀ v, (i, Value.int v) :: lv.filter (fun q => !(q.1 == i) && !(q.1 + 1 == i && q.2.category == 2)) = lv' v) (hd : decode (xcc x) pc = .ok (.istore i, 2)) (kk : ∀ v, Jj X (f v) (Vw x k n (pc + 2) (lv' v) st ws)) : Jj X (ltt u f) (Vw x k n pc lv (.int u :: st) ws) := J_istore hn (hlv u) hd (kk u)
theorem P_lst_n {z : Fin 4} {u : Int64} {lv' : Int64 → List (Nat × Value)} {f : Int64 → Option α} {ws : va_W} (i : Nat) (hi : (z : Nat) = i) (hn : i + 1 < xnL x) (hlv : ∀ v, (i, Value.long v) :: lv.filter (fun q => !(q.1 == i) && (!(q.1 == i + 1) && !(q.1 + 1 == i && q.2.category == 2))) = lv' v) (hd : decode (xcc x) pc = .ok (.lstore_n z, 1)) (kk : ∀ v, Jj X (f v) (Vw x k n (pc + 1) (lv' v) st ws)) : Jj X (ltt u f) (Vw x k n pc lv (.long u :: st) ws) := J_lstore_n i hi hn (hlv u) hd (kk u)
theorem P_lst {u : Int64} {i : Nat} {lv' : Int64 → List (Nat × Value)} {f : Int64 → Option α} {ws : va_W} (hn : i + 1 < xnL x) (hlv : ∀ v, (i, Value.long v) :: lv.filter (fun q => !(q.1 == i) && (!(q.1 == i + 1) && !(q.1 + 1 == i && q.2.category == 2))) = lv' v) (hd : decode (xcc x) pc = .ok (.lstore i, 2)) (kk : ∀ v, Jj X (f v) (Vw x k n (pc + 2) (lv' v) st ws)) : Jj X (ltt u f) (Vw x k n pc lv (.long u :: st) ws) := J_lstore hn (hlv u) hd (kk u)
theorem P_inc {i : Nat} {z : Int} {u w : Int32} {lv' : Int32 → List (Nat × Value)} {f : Int32 → Option α} {ws : va_W} (j : Nat) (hj : lv[j]? = some (i, .int u)) (hz : Int32.ofInt z = w) (hn : i < xnL x) (hlv : ∀ v, (i, Value.int v) :: lv.filter (fun q => !(q.1 == i) && !(q.1 + 1 == i && q.2.category == 2)) = lv' v) (hd : decode (xcc x) pc = .ok (.iinc i z, 3)) (kk : ∀ v, Jj X (f v) (Vw x k n (pc + 3) (lv' v) st ws)) : Jj X (ltt (u + w) f) (Vw x k n pc lv st ws) := J_iinc j hj (u + w) (by rw [hz]) hn (hlv _) hd (kk _)
theorem P_irem {u v : Int32} {ws : va_W} (hd : decode (xcc x) pc = .ok (.irem, 1)) (kk : Jj X o (Vw x k n (pc + 1) lv (.int (u - u / v * v) :: st) ws)) : Jj X (ckk (decide (¬ v = 0)) o) (Vw x k n pc lv (.int v :: .int u :: st) ws) := J_ck (fun hb => J_irem (of_decide_eq_true hb) hd kk)
theorem P_lrem {u v : Int64} {ws : va_W} (hd : decode (xcc x) pc = .ok (.lrem, 1)) (kk : Jj X o (Vw x k n (pc + 1) lv (.long (u - u / v * v) :: st) ws)) : Jj X (ckk (decide (¬ v = 0)) o) (Vw x k n pc lv (.long v :: .long u :: st) ws) := J_ck (fun hb => J_lrem (of_decide_eq_true hb) hd kk)
theorem P_ldiv {u v : Int64} {ws : va_W} (hd : decode (xcc x) pc = .ok (.ldiv, 1)) (kk : Jj X o (Vw x k n (pc + 1) lv (.long (u / v) :: st) ws)) : Jj X (ckk (decide (¬ v = 0)) o) (Vw x k n pc lv (.long v :: .long u :: st) ws) := J_ck (fun hb => J_ldiv (of_decide_eq_true hb) hd kk)
theorem P_zret {a : α} {v : Int32} {ws : va_W} (hk : k ≤ xkE x) (hn : n ≤ xnE x) (hd : decode (xcc x) pc = .ok (.ireturn, 1)) (hr : xret x = some .boolean) (hX : X a → xQ x (some (.int v)) ws) : Jj X (ckk (z01 v) (some a)) (Vw x k n pc lv [.int v] ws) := J_ck (fun hb => J_zret hk hn hd hr (zfit (z01_or hb)).1 hX)
end PROWS
section CROWS3
variable {x : KX} {k n pc : Nat} {lv : List (Nat × Value)} {st rest : List Value} {α β : Type} {X : α → Prop} {o : Option α} {ad : Nat → Nat} {h h' : HP}
variable {yA yB x0 : MethodName} {bA bB : ByteArray} {mA mB : Nat} {ret : Option FieldType} {np : Nat} {rA_ rB_ : Room} {CA CB : String} {idx a aA aB : Nat} {As : List Value}
theorem P_callU {y : MethodName} {bytes : ByteArray} {mL : Nat} {rm : Room} {γ : Type} {enc : γ → Option Value × HP} {o1 : Option γ} {f : γ → Option α} (hm : CM (xl x) (xg x) ad y bytes mL ret rm (.ref (ad a) :: As) h enc o1) (ok : MOk y bytes mL ret np) (hru : ∃ C, Rcv a C ∧ UOk C x0 y) (hlk : Cond.methodLink (xow x) idx x0 ∈ tb_l) (hR : Rok rm (xR x) mL) (hkn : Ckn x k n) (hn : As.length = np) (hst : st = As.reverse ++ .ref (ad a) :: rest) (hw : (rest.map fun v => v.category).sum ≤ 8) (hd : decode (xcc x) pc = .ok (.invokevirtual idx, 3)) (kk : ∀ a, Jj X (f a) (Vw x k n (pc + 3) lv ((enc a).1.toList ++ rest) (pic (xg x) ad (enc a).2))) : Jj X (bd1 o1 f) (Vw x k n pc lv st (pic (xg x) ad h)) := by
  obtain ⟨C, hrc, hu⟩ := hru
  exact J_call hm (fun _ hC hv => V_callU hC ok hrc hu hlk hR hkn hn hst hw hd hv) kk
theorem P_callUi {y : MethodName} {bytes : ByteArray} {mL : Nat} {rm : Room} {o1 : Option (Int32 × HP)} {f : Int32 → HP → Option α} (hm : CM (xl x) (xg x) ad y bytes mL ret rm (.ref (ad a) :: As) h enI o1) (ok : MOk y bytes mL ret np) (hru : ∃ C, Rcv a C ∧ UOk C x0 y) (hlk : Cond.methodLink (xow x) idx x0 ∈ tb_l) (hR : Rok rm (xR x) mL) (hkn : Ckn x k n) (hn : As.length = np) (hst : st = As.reverse ++ .ref (ad a) :: rest) (hw : (rest.map fun v => v.category).sum ≤ 8) (hd : decode (xcc x) pc = .ok (.invokevirtual idx, 3)) (kk : ∀ r h', Jj X (f r h') (Vw x k n (pc + 3) lv (.int r :: rest) (pic (xg x) ad h'))) : Jj X (bd2 o1 f) (Vw x k n pc lv st (pic (xg x) ad h)) := P_callU hm ok hru hlk hR hkn hn hst hw hd (fun q => kk q.1 q.2)
theorem P_callUv {y : MethodName} {bytes : ByteArray} {mL : Nat} {rm : Room} {o1 : Option HP} {f : HP → Option α} (hm : CM (xl x) (xg x) ad y bytes mL ret rm (.ref (ad a) :: As) h enV o1) (ok : MOk y bytes mL ret np) (hru : ∃ C, Rcv a C ∧ UOk C x0 y) (hlk : Cond.methodLink (xow x) idx x0 ∈ tb_l) (hR : Rok rm (xR x) mL) (hkn : Ckn x k n) (hn : As.length = np) (hst : st = As.reverse ++ .ref (ad a) :: rest) (hw : (rest.map fun v => v.category).sum ≤ 8) (hd : decode (xcc x) pc = .ok (.invokevirtual idx, 3)) (kk : ∀ h', Jj X (f h') (Vw x k n (pc + 3) lv rest (pic (xg x) ad h'))) : Jj X (bd1 o1 f) (Vw x k n pc lv st (pic (xg x) ad h)) := P_callU hm ok hru hlk hR hkn hn hst hw hd (fun q => kk q)
theorem P_callD {γ : Type} {enc : γ → Option Value × HP} {oA oB : Option γ} {f : γ → Option α} (ha : a ∈ [aA, aB]) (hmA : CM (xl x) (xg x) ad yA bA mA ret rA_ (.ref (ad aA) :: As) h enc oA) (hmB : CM (xl x) (xg x) ad yB bB mB ret rB_ (.ref (ad aB) :: As) h enc oB) (okA : MOk yA bA mA ret np) (okB : MOk yB bB mB ret np) (hA : Rcv aA CA ∧ UOk CA x0 yA) (hB : Rcv aB CB ∧ UOk CB x0 yB) (hlk : Cond.methodLink (xow x) idx x0 ∈ tb_l) (hRA : Rok rA_ (xR x) mA) (hRB : Rok rB_ (xR x) mB) (hkn : Ckn x k n) (hn : As.length = np) (hst : st = As.reverse ++ .ref (ad a) :: rest) (hw : (rest.map fun v => v.category).sum ≤ 8) (hd : decode (xcc x) pc = .ok (.invokevirtual idx, 3)) (kk : ∀ a, Jj X (f a) (Vw x k n (pc + 3) lv ((enc a).1.toList ++ rest) (pic (xg x) ad (enc a).2))) : Jj X (bd1 (if a = aA then oA else oB) f) (Vw x k n pc lv st (pic (xg x) ad h)) := by
  by_cases he : a = aA
  · subst he
    rw [if_pos rfl]
    exact J_call hmA (fun _ hC hv => V_callU hC okA hA.1 hA.2 hlk hRA hkn hn hst hw hd hv) kk
  · have hb : a = aB := by
      simp only [List.mem_cons, List.not_mem_nil, or_false] at ha
      rcases ha with ha | ha
      · exact absurd ha he
      · exact ha
    rw [if_neg he]
    subst hb
    exact J_call hmB (fun _ hC hv => V_callU hC okB hB.1 hB.2 hlk hRB hkn hn hst hw hd hv) kk
theorem P_callDi {oA oB : Option (Int32 × HP)} {f : Int32 → HP → Option α} (ha : a ∈ [aA, aB]) (hmA : CM (xl x) (xg x) ad yA bA mA ret rA_ (.ref (ad aA) :: As) h enI oA) (hmB : CM (xl x) (xg x) ad yB bB mB ret rB_ (.ref (ad aB) :: As) h enI oB) (okA : MOk yA bA mA ret np) (okB : MOk yB bB mB ret np) (hA : Rcv aA CA ∧ UOk CA x0 yA) (hB : Rcv aB CB ∧ UOk CB x0 yB) (hlk : Cond.methodLink (xow x) idx x0 ∈ tb_l) (hRA : Rok rA_ (xR x) mA) (hRB : Rok rB_ (xR x) mB) (hkn : Ckn x k n) (hn : As.length = np) (hst : st = As.reverse ++ .ref (ad a) :: rest) (hw : (rest.map fun v => v.category).sum ≤ 8) (hd : decode (xcc x) pc = .ok (.invokevirtual idx, 3)) (kk : ∀ r h', Jj X (f r h') (Vw x k n (pc + 3) lv (.int r :: rest) (pic (xg x) ad h'))) : Jj X (bd2 (if a = aA then oA else oB) f) (Vw x k n pc lv st (pic (xg x) ad h)) := P_callD ha hmA hmB okA okB hA hB hlk hRA hRB hkn hn hst hw hd (fun q => kk q.1 q.2)
theorem P_callDv {oA oB : Option HP} {f : HP → Option α} (ha : a ∈ [aA, aB]) (hmA : CM (xl x) (xg x) ad yA bA mA ret rA_ (.ref (ad aA) :: As) h enV oA) (hmB : CM (xl x) (xg x) ad yB bB mB ret rB_ (.ref (ad aB) :: As) h enV oB) (okA : MOk yA bA mA ret np) (okB : MOk yB bB mB ret np) (hA : Rcv aA CA ∧ UOk CA x0 yA) (hB : Rcv aB CB ∧ UOk CB x0 yB) (hlk : Cond.methodLink (xow x) idx x0 ∈ tb_l) (hRA : Rok rA_ (xR x) mA) (hRB : Rok rB_ (xR x) mB) (hkn : Ckn x k n) (hn : As.length = np) (hst : st = As.reverse ++ .ref (ad a) :: rest) (hw : (rest.map fun v => v.category).sum ≤ 8) (hd : decode (xcc x) pc = .ok (.invokevirtual idx, 3)) (kk : ∀ h', Jj X (f h') (Vw x k n (pc + 3) lv rest (pic (xg x) ad h'))) : Jj X (bd1 (if a = aA then oA else oB) f) (Vw x k n pc lv st (pic (xg x) ad h)) := P_callD ha hmA hmB okA okB hA hB hlk hRA hRB hkn hn hst hw hd (fun q => kk q)
end CROWS3
