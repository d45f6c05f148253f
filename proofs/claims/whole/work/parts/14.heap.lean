/-! rows that touch the heap, and calls -/
def FOk (own : String) (idx a j : Nat) (fty : FieldType) (fin : Bool) : Prop := ∃ (C : String) (T : u_T) (N : Nat) (ty : Nat → FieldType) (ref : String), cl_ok (kd a) C T N ty ∧ j < N ∧ kd a < 20 ∧ a < nc_c ∧ (fdl a).length = N ∧ Cond.fieldLink own idx ref (T j).2.1 (T j).2.2.1 ∈ tb_l ∧ (ref = (T j).1 ∨ Cond.sameField ref (T j).1 (T j).2.1 (T j).2.2.1 ∈ tb_l) ∧ ty j = fty ∧ (T j).2.2.2 = fin
theorem FOk.mk0 {own : String} {idx a j : Nat} {fty : FieldType} {fin : Bool} {C : String} {T : u_T} {N : Nat} {ty : Nat → FieldType} (hc : cl_ok (kd a) C T N ty) (hj : j < N) (hk : kd a < 20) (ha : a < nc_c) (hl : (fdl a).length = N) (hlk : Cond.fieldLink own idx (T j).1 (T j).2.1 (T j).2.2.1 ∈ tb_l) (hty : ty j = fty) (hf : (T j).2.2.2 = fin) : FOk own idx a j fty fin := ⟨C, T, N, ty, _, hc, hj, hk, ha, hl, hlk, Or.inl rfl, hty, hf⟩
theorem FOk.mk1 {own : String} {idx a j : Nat} {fty : FieldType} {fin : Bool} {C : String} {T : u_T} {N : Nat} {ty : Nat → FieldType} (ref : String) (hc : cl_ok (kd a) C T N ty) (hj : j < N) (hk : kd a < 20) (ha : a < nc_c) (hl : (fdl a).length = N) (hlk : Cond.fieldLink own idx ref (T j).2.1 (T j).2.2.1 ∈ tb_l) (hs : Cond.sameField ref (T j).1 (T j).2.1 (T j).2.2.1 ∈ tb_l) (hty : ty j = fty) (hf : (T j).2.2.2 = fin) : FOk own idx a j fty fin := ⟨C, T, N, ty, ref, hc, hj, hk, ha, hl, hlk, Or.inr hs, hty, hf⟩
def inb (i : Int32) (n : Nat) : Bool := decide (¬ (i < 0 ∨ n ≤ i.toNatClampNeg))
theorem inb_in {i : Int32} {n : Nat} (h : inb i n = true) : vp_in i n := by
  unfold inb at h
  have h2 : ¬ (i < 0 ∨ n ≤ i.toNatClampNeg) := of_decide_eq_true h
  exact h2
section HROWS
variable {x : KX} {k n pc : Nat} {lv : List (Nat × Value)} {st : List Value} {α β : Type} {X : α → Prop} {o : Option α} {ad : Nat → Nat} {h : HP}
theorem V_get {idx a j : Nat} {fty : FieldType} {fin : Bool} {fd : Nat × Nat} (hF : FOk (xow x) idx a j fty fin) (hf : (fdl a)[j]? = some fd) (hd : decode (xcc x) pc = .ok (.getfield idx, 3)) (kk : Vw x k n (pc + 3) lv (fv_ ad h a j fd :: st) (pic (xg x) ad h)) : Vw x k n pc lv (.ref (ad a) :: st) (pic (xg x) ad h) := by
  intro p e s m args below meth c H locs A Z ls S r hl hE
  obtain ⟨C, T, N, ty, ref, hc, hj, hk, ha, hlen, hlk, hsm, -, -⟩ := hF
  have hts := S.2.2.2.2.1.2.hts args
  have hw : (pic (xg x) ad h)[a]? = some (ad a, .inr (kd a, (fdl a).mapIdx (fun j fd => fv_ ad h a j fd))) := by rw [pic_get ha, ce_obj hk]
  refine va_get (ci := kd a) (v := fv_ ad h a j fd) (ref := ref) S.1 S.2.1 hts hc.2.1 S.2.2.2.1 S.2.2.2.2.1.1 r.1 a hw hc.1 j hj (hts _ hlk) ?_ ?_ hd (kk p e s m args below meth c H locs A Z ls S r hl hE)
  · rcases hsm with rfl | hsm
    · exact fun _ h => h
    · exact fun z hz => u_same (hts _ hsm) z hz
  · rw [List.getElem?_mapIdx, hf]
    rfl
theorem V_put {idx a j : Nat} {fty : FieldType} {v : Value} {h' : HP} (hF : FOk (xow x) idx a j fty false) (hn : narrow fty v = v) (hfit : fits fty v = true) (hset : (pic (xg x) ad h).set a (ad a, .inr (kd a, ((fdl a).mapIdx (fun j fd => fv_ ad h a j fd)).set j v)) = pic (xg x) ad h') (hd : decode (xcc x) pc = .ok (.putfield idx, 3)) (kk : Vw x k n (pc + 3) lv st (pic (xg x) ad h')) : Vw x k n pc lv (v :: .ref (ad a) :: st) (pic (xg x) ad h) := by
  intro p e s m args below meth c H locs A Z ls S r hl hE
  obtain ⟨C, T, N, ty, ref, hc, hj, hk, ha, hlen, hlk, hsm, hty, hfin⟩ := hF
  have hts := S.2.2.2.2.1.2.hts args
  have hw : (pic (xg x) ad h)[a]? = some (ad a, .inr (kd a, (fdl a).mapIdx (fun j fd => fv_ ad h a j fd))) := by rw [pic_get ha, ce_obj hk]
  subst hty
  refine va_put (ci := kd a) (v := v) (ref := ref) S.1 S.2.1 hts hc.2.1 ty hc.2.2.1 hc.2.2.2 S.2.2.2.1 S.2.2.2.2.1.1 r.1 r.2.1 r.2.2 a hw hc.1 j hj (hts _ hlk) ?_ hfin (hc.2.2.1 j hj) hn hfit ?_ hd (fun H1 locs1 q1 q2 q3 => ?_)
  · rcases hsm with rfl | hsm
    · exact fun _ h => h
    · exact fun z hz => u_same (hts _ hsm) z hz
  · rw [List.length_mapIdx, hlen]
    exact hj
  · rw [hset] at q1 q2
    exact kk p e s m args below meth c H1 locs1 A Z ls S ⟨q1, q2, q3⟩ hl hE
theorem J_getI {idx a j t : Nat} (hF : FOk (xow x) idx a j .int false) (hf : (fdl a)[j]? = some (0, t)) (hd : decode (xcc x) pc = .ok (.getfield idx, 3)) (kk : Jj X o (Vw x k n (pc + 3) lv (.int (h.1 a j) :: st) (pic (xg x) ad h))) : Jj X o (Vw x k n pc lv (.ref (ad a) :: st) (pic (xg x) ad h)) := fun q => V_get hF hf hd (kk q)
theorem J_getIf {idx a j t : Nat} {fin : Bool} (hF : FOk (xow x) idx a j .int fin) (hf : (fdl a)[j]? = some (0, t)) (hd : decode (xcc x) pc = .ok (.getfield idx, 3)) (kk : Jj X o (Vw x k n (pc + 3) lv (.int (h.1 a j) :: st) (pic (xg x) ad h))) : Jj X o (Vw x k n pc lv (.ref (ad a) :: st) (pic (xg x) ad h)) := fun q => V_get hF hf hd (kk q)
theorem J_getZ {idx a j t : Nat} (hF : FOk (xow x) idx a j .boolean false) (hf : (fdl a)[j]? = some (0, t)) (hd : decode (xcc x) pc = .ok (.getfield idx, 3)) (kk : Jj X o (Vw x k n (pc + 3) lv (.int (h.1 a j) :: st) (pic (xg x) ad h))) : Jj X o (Vw x k n pc lv (.ref (ad a) :: st) (pic (xg x) ad h)) := fun q => V_get hF hf hd (kk q)
theorem J_getL {idx a j t : Nat} (hF : FOk (xow x) idx a j .long false) (hf : (fdl a)[j]? = some (1, t)) (hd : decode (xcc x) pc = .ok (.getfield idx, 3)) (kk : Jj X o (Vw x k n (pc + 3) lv (.long (h.2.1 a j) :: st) (pic (xg x) ad h))) : Jj X o (Vw x k n pc lv (.ref (ad a) :: st) (pic (xg x) ad h)) := fun q => V_get hF hf hd (kk q)
theorem J_getR {idx a j t : Nat} {fty : FieldType} {fin : Bool} (hF : FOk (xow x) idx a j fty fin) (hf : (fdl a)[j]? = some (2, t)) (hd : decode (xcc x) pc = .ok (.getfield idx, 3)) (kk : Jj X o (Vw x k n (pc + 3) lv (.ref (ad t) :: st) (pic (xg x) ad h))) : Jj X o (Vw x k n pc lv (.ref (ad a) :: st) (pic (xg x) ad h)) := fun q => V_get hF hf hd (kk q)
theorem J_getM {idx a j t : Nat} {fty : FieldType} {fin : Bool} (hF : FOk (xow x) idx a j fty fin) (hf : (fdl a)[j]? = some (3, t)) (hd : decode (xcc x) pc = .ok (.getfield idx, 3)) (kk : Jj X o (Vw x k n (pc + 3) lv (.ref (ad h.2.2) :: st) (pic (xg x) ad h))) : Jj X o (Vw x k n pc lv (.ref (ad a) :: st) (pic (xg x) ad h)) := fun q => V_get hF hf hd (kk q)
theorem FOk.lt {own : String} {idx a j : Nat} {fty : FieldType} {fin : Bool} (h : FOk own idx a j fty fin) : a < nc_c ∧ kd a < 20 := by
  obtain ⟨C, T, N, ty, ref, hc, hj, hk, ha, -⟩ := h
  exact ⟨ha, hk⟩
theorem J_putI {idx a j t : Nat} {v : Int32} (hF : FOk (xow x) idx a j .int false) (hf : (fdl a)[j]? = some (0, t)) (hd : decode (xcc x) pc = .ok (.putfield idx, 3)) (kk : Jj X o (Vw x k n (pc + 3) lv st (pic (xg x) ad (sI h a j v)))) : Jj X o (Vw x k n pc lv (.int v :: .ref (ad a) :: st) (pic (xg x) ad h)) := fun q => V_put hF rfl rfl (pic_sI_f hF.lt.1 hF.lt.2 hf) hd (kk q)
theorem zfit {v : Int32} (hv : v = 0 ∨ v = 1) : narrow .boolean (.int v) = .int v ∧ fits .boolean (.int v) = true := by
  rcases hv with rfl | rfl
  · exact ⟨by decide, by decide⟩
  · exact ⟨by decide, by decide⟩
theorem J_putZ {idx a j t : Nat} {v : Int32} (hv : v = 0 ∨ v = 1) (hF : FOk (xow x) idx a j .boolean false) (hf : (fdl a)[j]? = some (0, t)) (hd : decode (xcc x) pc = .ok (.putfield idx, 3)) (kk : Jj X o (Vw x k n (pc + 3) lv st (pic (xg x) ad (sI h a j v)))) : Jj X o (Vw x k n pc lv (.int v :: .ref (ad a) :: st) (pic (xg x) ad h)) := fun q => V_put hF (zfit hv).1 (zfit hv).2 (pic_sI_f hF.lt.1 hF.lt.2 hf) hd (kk q)
theorem J_putL {idx a j t : Nat} {v : Int64} (hF : FOk (xow x) idx a j .long false) (hf : (fdl a)[j]? = some (1, t)) (hd : decode (xcc x) pc = .ok (.putfield idx, 3)) (kk : Jj X o (Vw x k n (pc + 3) lv st (pic (xg x) ad (sL h a j v)))) : Jj X o (Vw x k n pc lv (.long v :: .ref (ad a) :: st) (pic (xg x) ad h)) := fun q => V_put hF rfl rfl (pic_sL_f hF.lt.1 hF.lt.2 hf) hd (kk q)
theorem J_putM {idx a j t v : Nat} {C : String} (ho : ∀ b i x, (b ≠ a ∨ i ≠ j) → (fdl b)[i]? = some x → x.1 ≠ 3) (hz : ∀ b, (fdl b).all (fun x => decide (x.1 ≤ 3)) = true) (hF : FOk (xow x) idx a j (.object C) false) (hf : (fdl a)[j]? = some (3, t)) (hd : decode (xcc x) pc = .ok (.putfield idx, 3)) (kk : Jj X o (Vw x k n (pc + 3) lv st (pic (xg x) ad (sR h v)))) : Jj X o (Vw x k n pc lv (.ref (ad v) :: .ref (ad a) :: st) (pic (xg x) ad h)) := fun q => V_put hF rfl rfl (pic_sR hF.lt.1 hF.lt.2 hf ho hz) hd (kk q)
theorem J_iald {a N : Nat} {i : Int32} (ha : a < nc_c) (hk : kd a = 20) (hN : ln a = N) (hd : decode (xcc x) pc = .ok (.iaload, 1)) (kk : Jj X o (Vw x k n (pc + 1) lv (.int (h.1 a i.toNatClampNeg) :: st) (pic (xg x) ad h))) : Jj X (ckk (inb i N) o) (Vw x k n pc lv (.int i :: .ref (ad a) :: st) (pic (xg x) ad h)) := by
  refine J_ck (fun hb q p e s m args below meth c H locs A Z ls S r hl hE => ?_)
  subst hN
  exact va_iald S.1 S.2.1 S.2.2.2.2.1.1 r.1 a 0 (by rw [pic_get ha, ce_int hk]) rfl (inb_in hb) hd (kk q p e s m args below meth c H locs A Z ls S r hl hE)
theorem J_zald {a N : Nat} {i : Int32} (ha : a < nc_c) (hk : kd a = 21) (hN : ln a = N) (hd : decode (xcc x) pc = .ok (.baload, 1)) (kk : Jj X o (Vw x k n (pc + 1) lv (.int (h.1 a i.toNatClampNeg) :: st) (pic (xg x) ad h))) : Jj X (ckk (inb i N) o) (Vw x k n pc lv (.int i :: .ref (ad a) :: st) (pic (xg x) ad h)) := by
  refine J_ck (fun hb q p e s m args below meth c H locs A Z ls S r hl hE => ?_)
  subst hN
  exact va_zald S.1 S.2.1 S.2.2.2.2.1.1 r.1 a 1 (by rw [pic_get ha, ce_bool hk]) rfl (inb_in hb) hd (kk q p e s m args below meth c H locs A Z ls S r hl hE)
theorem J_iast {a N : Nat} {i v : Int32} (ha : a < nc_c) (hk : kd a = 20) (hN : ln a = N) (hd : decode (xcc x) pc = .ok (.iastore, 1)) (kk : Jj X o (Vw x k n (pc + 1) lv st (pic (xg x) ad (sI h a i.toNatClampNeg v)))) : Jj X (ckk (inb i N) o) (Vw x k n pc lv (.int v :: .int i :: .ref (ad a) :: st) (pic (xg x) ad h)) := by
  refine J_ck (fun hb q p e s m args below meth c H locs A Z ls S r hl hE => ?_)
  subst hN
  refine va_iast S.1 S.2.1 S.2.2.2.2.1.1 r.1 r.2.1 r.2.2 a 0 (by rw [pic_get ha, ce_int hk]) rfl (inb_in hb) hd (fun H1 locs1 q1 q2 q3 => ?_)
  rw [pic_sI_a ha hk] at q1 q2
  exact kk q p e s m args below meth c H1 locs1 A Z ls S ⟨q1, q2, q3⟩ hl hE
theorem J_zast {a N : Nat} {i v : Int32} (hv : vp_nar .boolean v = v) (ha : a < nc_c) (hk : kd a = 21) (hN : ln a = N) (hd : decode (xcc x) pc = .ok (.bastore, 1)) (kk : Jj X o (Vw x k n (pc + 1) lv st (pic (xg x) ad (sI h a i.toNatClampNeg v)))) : Jj X (ckk (inb i N) o) (Vw x k n pc lv (.int v :: .int i :: .ref (ad a) :: st) (pic (xg x) ad h)) := by
  refine J_ck (fun hb q p e s m args below meth c H locs A Z ls S r hl hE => ?_)
  subst hN
  refine va_zast S.1 S.2.1 S.2.2.2.2.1.1 r.1 r.2.1 r.2.2 a 1 (by rw [pic_get ha, ce_bool hk]) rfl (inb_in hb) hd (fun H1 locs1 q1 q2 q3 => ?_)
  rw [hv, pic_sI_z ha hk] at q1 q2
  exact kk q p e s m args below meth c H1 locs1 A Z ls S ⟨q1, q2, q3⟩ hl hE
theorem J_alen {a : Nat} {v : Int32} (ha : a < nc_c) (hk : kd a = 20) (hv : Int32.ofNat (ln a) = v) (hd : decode (xcc x) pc = .ok (.arraylength, 1)) (kk : Jj X o (Vw x k n (pc + 1) lv (.int v :: st) (pic (xg x) ad h))) : Jj X o (Vw x k n pc lv (.ref (ad a) :: st) (pic (xg x) ad h)) := fun q p e s m args below meth c H locs A Z ls S r hl hE => va_alen S.1 S.2.1 S.2.2.2.2.1.1 r.1 a 0 (by rw [pic_get ha, ce_int hk]) rfl hv hd (kk q p e s m args below meth c H locs A Z ls S r hl hE)
theorem J_aaldT {a N : Nat} {i : Int32} (ha : a < nc_c) (hk : kd a = 22) (hN : ln a = N) (hd : decode (xcc x) pc = .ok (.aaload, 1)) (kk : inb i N = true → Jj X o (Vw x k n (pc + 1) lv (.ref (ad (rfx a i.toNatClampNeg)) :: st) (pic (xg x) ad h))) : Jj X (ckk (inb i N) o) (Vw x k n pc lv (.int i :: .ref (ad a) :: st) (pic (xg x) ad h)) := by
  refine J_ck (fun hb q p e s m args below meth c H locs A Z ls S r hl hE => ?_)
  subst hN
  exact va_aldq (f := fun i => some (ad (rfx a i))) S.1 S.2.1 S.2.2.2.2.1.1 r.1 a 2 (by rw [pic_get ha, ce_txt hk]) rfl (inb_in hb) hd (kk hb q p e s m args below meth c H locs A Z ls S r hl hE)
theorem J_aaldS {a N : Nat} {i : Int32} (ha : a < nc_c) (hk : kd a = 23) (hN : ln a = N) (hd : decode (xcc x) pc = .ok (.aaload, 1)) (kk : inb i N = true → Jj X o (Vw x k n (pc + 1) lv (.ref (ad (rfx a i.toNatClampNeg)) :: st) (pic (xg x) ad h))) : Jj X (ckk (inb i N) o) (Vw x k n pc lv (.int i :: .ref (ad a) :: st) (pic (xg x) ad h)) := by
  refine J_ck (fun hb q p e s m args below meth c H locs A Z ls S r hl hE => ?_)
  subst hN
  exact va_aldq (f := fun i => some (ad (rfx a i))) S.1 S.2.1 S.2.2.2.2.1.1 r.1 a 3 (by rw [pic_get ha, ce_sht hk]) rfl (inb_in hb) hd (kk hb q p e s m args below meth c H locs A Z ls S r hl hE)
theorem J_sld {ws : va_W} {b L : Nat} {xs : Nat → Int32} {i : Int32} (hs : xsc x = some (b, L, xs)) (hd : decode (xcc x) pc = .ok (.iaload, 1)) (kk : Jj X o (Vw x k n (pc + 1) lv (.int (xs i.toNatClampNeg) :: st) ws)) : Jj X (ckk (inb i L) o) (Vw x k n pc lv (.int i :: .ref b :: st) ws) := by
  refine J_ck (fun hb q p e s m args below meth c H locs A Z ls S r hl hE => ?_)
  obtain ⟨h1, h2, h3⟩ := S.2.2.2.2.2.2.2 b L xs hs
  exact va_sld S.1 S.2.1 h1 h2 h3 r.2.2 (inb_in hb) hd (kk q p e s m args below meth c H locs A Z ls S r hl hE)
theorem J_slen {ws : va_W} {b L : Nat} {xs : Nat → Int32} (hs : xsc x = some (b, L, xs)) (hd : decode (xcc x) pc = .ok (.arraylength, 1)) (kk : Jj X o (Vw x k n (pc + 1) lv (.int (Int32.ofNat L) :: st) ws)) : Jj X o (Vw x k n pc lv (.ref b :: st) ws) := by
  intro q p e s m args below meth c H locs A Z ls S r hl hE
  obtain ⟨h1, h2, h3⟩ := S.2.2.2.2.2.2.2 b L xs hs
  exact va_slen S.1 S.2.1 h1 h2 h3 r.2.2 hd (kk q p e s m args below meth c H locs A Z ls S r hl hE)
def cpk (sp dp m : Int32) (la lb : Nat) : Bool := decide (¬ sp < 0) && decide (¬ dp < 0) && decide (¬ m < 0) && decide (sp.toNatClampNeg + m.toNatClampNeg ≤ la) && decide (dp.toNatClampNeg + m.toNatClampNeg ≤ lb)
def wC (h : HP) (a b : Nat) (sp dp m : Int32) : HP := sA h b (va_cpy (h.1 a) (h.1 b) sp.toNatClampNeg dp.toNatClampNeg m.toNatClampNeg)
theorem J_copy {idx a b la lb : Nat} {sp dp m : Int32} (hlk : Cond.methodLink (xow x) idx arraycopyName ∈ tb_l) (hnat : Cond.native arraycopyName ∈ tb_l) (hst : Cond.static arraycopyName ∈ tb_l) (hini : Cond.initialized "java/lang/System" ∈ tb_l) (ha : a < nc_c) (hka : kd a = 20) (hla : ln a = la) (hb : b < nc_c) (hkb : kd b = 20) (hlb : ln b = lb) (hfr : 1 ≤ (xR x).frames) (hlo : (st.map fun v => v.category).sum + (nativeFrameWords "java/lang/System" "arraycopy" 5 + 11) ≤ (xR x).locals) (hd : decode (xcc x) pc = .ok (.invokestatic idx, 3)) (kk : Jj X o (Vw x k n (pc + 3) lv st (pic (xg x) ad (wC h a b sp dp m)))) : Jj X (ckk (cpk sp dp m la lb) o) (Vw x k n pc lv (.int m :: .int dp :: .ref (ad b) :: .int sp :: .ref (ad a) :: st) (pic (xg x) ad h)) := by
  refine J_ck (fun hc q p e s mm args below meth c H locs A Z ls S r hl hE => ?_)
  subst hla
  subst hlb
  unfold cpk at hc
  simp only [Bool.and_eq_true, decide_eq_true_eq] at hc
  obtain ⟨⟨⟨⟨h1, h2⟩, h3⟩, h4⟩, h5⟩ := hc
  have hts := S.2.2.2.2.1.2.hts args
  refine va_copyi S.1 S.2.1 (S.2.2.1.trans hl.1.symm) S.2.2.2.1 (hts _ hlk) (hts _ hnat) (hts _ hst) (hts _ hini) S.2.2.2.2.1.1 r.1 r.2.1 r.2.2 a b 0 0 (by rw [pic_get ha, ce_int hka]) (by rw [pic_get hb, ce_int hkb]) rfl rfl rfl h1 h2 h3 h4 h5 (fun _ _ => rfl) hfr hlo hd (fun H1 locs1 q1 q2 q3 => ?_)
  rw [pic_sA hb hkb] at q1 q2
  exact kk q p e s mm args below meth c H1 locs1 A Z ls S ⟨q1, q2, q3⟩ hl hE
end HROWS
