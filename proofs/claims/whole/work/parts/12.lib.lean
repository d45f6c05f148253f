/-! the judgement over the abstract heap: one world (72 cells), every method's body a walk in it -/
abbrev GG : Type := va_G × (ClassId × ClassId × ClassId × ClassId)
def ty4 (g : GG) : List (ClassId × FieldType) := [(g.2.1, .int), (g.2.2.1, .boolean), (g.2.2.2.1, .object "CamelStraws$Text"), (g.2.2.2.2, .object "CamelStraws$Sheet")]
def XW (U : State) : Prop := ∀ w ∈ tb_l, w.before #[] U = true
theorem okW_tab {w : Cond} (h : okW w = true) : w.onTables = true ∨ (∃ ty, w = .arrayClass ty) ∨ ∃ C, w = .arrayOver (.object C) := by
  unfold okW at h
  rcases Bool.or_eq_true_iff.mp h with h | h
  · rcases good_of_word h with h | ⟨ty, rfl⟩
    · exact Or.inl (Bool.and_eq_true_iff.mp h).1
    · exact Or.inr (Or.inl ⟨ty, rfl⟩)
  · unfold softW at h
    split at h
    · exact Or.inl rfl
    · exact Or.inl rfl
    · exact Or.inl rfl
    · exact Or.inr (Or.inr ⟨_, rfl⟩)
    · cases h
theorem okW_any {w : Cond} (hw : okW w = true) {A A' : Array Value} {u U : State} (h : u.vm = U.vm) (hb : w.before A u = true) : w.before A' U = true := by
  rcases okW_tab hw with ht | ⟨ty, rfl⟩ | ⟨C, rfl⟩
  · exact va_tabs ht h hb
  · have h2 : u.WarmedH U.vm := by rw [← h]; exact State.WarmedH.refl u
    exact word_at h2 (Or.inr ⟨_, rfl⟩) hb
  · exact va_AO.use (va_AO.moved (by rw [h]; exact Vm.Alike.refl _) (va_AO.of hb))
theorem XW.same {u U : State} (h : u.vm = U.vm) (hx : XW u) : XW U := fun w hw => okW_any (tb_ok w hw) h (hx w hw)
theorem XW.hts {s : State} (h : XW s) (args : Array Value) : ∀ w ∈ tb_l, w.before args s = true := fun w hw => okW_any (tb_ok w hw) rfl (h w hw)
theorem XW.warm {s U : State} (hW : s.WarmedH U.vm) (h : XW s) : XW U := by
  intro w hw
  have hb := h w hw
  have hk := tb_ok w hw
  unfold okW at hk
  rcases Bool.or_eq_true_iff.mp hk with hk | hk
  · exact word_at hW (good_of_word hk) hb
  · unfold softW at hk
    split at hk
    · exact va_Nw.warmM hW hb
    · exact va_Nw.warmD hW hb
    · exact va_Nw.warmC hW hb
    · exact va_AO.use (va_AO.moved hW.alike (va_AO.of hb))
    · cases hk
def wk (g : GG) (U : State) : Prop := va_K g.1 cl_s (ty4 g) U ∧ XW U
theorem wk.warm {g : GG} {s U : State} (hW : s.WarmedH U.vm) (h : wk g s) : wk g U := ⟨va_K.moved hW.alike h.1, XW.warm hW h.2⟩
theorem wk.calling {g : GG} {U : State} {f : JFrame} {mk : MethodId} {a : Array Value} (h : wk g U) : wk g (U.calling f mk a) := ⟨va_K.moved (u := U) (U := U.calling f mk a) (Vm.Alike.refl U.vm) h.1, XW.same (u := U) (U := U.calling f mk a) rfl h.2⟩
/-! the abstract heap: ints by cell and place, longs by cell and place, the one reference that changes -/
abbrev HP : Type := (Nat → Nat → Int32) × (Nat → Nat → Int64) × Nat
def fv_ (ad : Nat → Nat) (h : HP) (a j : Nat) (fd : Nat × Nat) : Value := if fd.1 = 0 then .int (h.1 a j) else if fd.1 = 1 then .long (h.2.1 a j) else if fd.1 = 2 then .ref (ad fd.2) else .ref (ad h.2.2)
def ce_ (g : GG) (ad : Nat → Nat) (h : HP) (a : Nat) : va_E :=
  if kd a = 20 then .inl (g.2.1, ln a, .inl (h.1 a))
  else if kd a = 21 then .inl (g.2.2.1, ln a, .inl (h.1 a))
  else if kd a = 22 then .inl (g.2.2.2.1, ln a, .inr (.inr (.inr (.inr (fun i => some (ad (rfx a i)))))))
  else if kd a = 23 then .inl (g.2.2.2.2, ln a, .inr (.inr (.inr (.inr (fun i => some (ad (rfx a i)))))))
  else .inr (kd a, (fdl a).mapIdx (fun j fd => fv_ ad h a j fd))
def pic (g : GG) (ad : Nat → Nat) (h : HP) : va_W := (List.range nc_c).map (fun a => (ad a, ce_ g ad h a))
def sI (h : HP) (a j : Nat) (v : Int32) : HP := (fun b k => if b = a then (if k = j then v else h.1 b k) else h.1 b k, h.2.1, h.2.2)
def sL (h : HP) (a j : Nat) (v : Int64) : HP := (h.1, fun b k => if b = a then (if k = j then v else h.2.1 b k) else h.2.1 b k, h.2.2)
def sR (h : HP) (v : Nat) : HP := (h.1, h.2.1, v)
theorem pic_get {g : GG} {ad : Nat → Nat} {h : HP} {a : Nat} (ha : a < nc_c) : (pic g ad h)[a]? = some (ad a, ce_ g ad h a) := by
  unfold pic
  rw [List.getElem?_map, List.getElem?_range ha]
  rfl
theorem pic_set {g : GG} {ad : Nat → Nat} {h h' : HP} {a : Nat} {e : va_E} (ha : a < nc_c) (he : e = ce_ g ad h' a) (ho : ∀ b, b ≠ a → ce_ g ad h' b = ce_ g ad h b) : (pic g ad h).set a (ad a, e) = pic g ad h' := by
  apply List.ext_getElem?
  intro i
  rw [List.getElem?_set]
  by_cases hi : a = i
  · subst hi
    rw [if_pos rfl, if_pos (by simpa [pic] using ha), pic_get ha, he]
  · rw [if_neg hi]
    unfold pic
    rw [List.getElem?_map, List.getElem?_map]
    cases hr : (List.range nc_c)[i]? with
    | none => rfl
    | some b =>
      have hb : b = i := by
        have := List.getElem?_eq_some_iff.mp hr
        obtain ⟨h1, h2⟩ := this
        simpa using h2.symm
      subst hb
      simp [ho _ (Ne.symm hi)]
theorem fv_sI {ad : Nat → Nat} {h : HP} {a b j i : Nat} {v : Int32} {fd : Nat × Nat} (hn : b ≠ a ∨ i ≠ j) : fv_ ad (sI h a j v) b i fd = fv_ ad h b i fd := by
  unfold fv_ sI
  rcases hn with hn | hn
  · simp [hn]
  · by_cases hb : b = a <;> simp [hn, hb]
theorem fv_sL {ad : Nat → Nat} {h : HP} {a b j i : Nat} {v : Int64} {fd : Nat × Nat} (hn : b ≠ a ∨ i ≠ j) : fv_ ad (sL h a j v) b i fd = fv_ ad h b i fd := by
  unfold fv_ sL
  rcases hn with hn | hn
  · simp [hn]
  · by_cases hb : b = a <;> simp [hn, hb]
theorem ce_sI_ne {g : GG} {ad : Nat → Nat} {h : HP} {a j : Nat} {v : Int32} (b : Nat) (hb : b ≠ a) : ce_ g ad (sI h a j v) b = ce_ g ad h b := by
  have e1 : (sI h a j v).1 b = h.1 b := by funext k; simp [sI, hb]
  have e2 : (fun (i : Nat) (fd : Nat × Nat) => fv_ ad (sI h a j v) b i fd) = fun i fd => fv_ ad h b i fd := by funext i fd; exact fv_sI (Or.inl hb)
  unfold ce_
  rw [e1, e2]
theorem ce_sL_ne {g : GG} {ad : Nat → Nat} {h : HP} {a j : Nat} {v : Int64} (b : Nat) (hb : b ≠ a) : ce_ g ad (sL h a j v) b = ce_ g ad h b := by
  have e1 : (sL h a j v).1 b = h.1 b := rfl
  have e2 : (fun (i : Nat) (fd : Nat × Nat) => fv_ ad (sL h a j v) b i fd) = fun i fd => fv_ ad h b i fd := by funext i fd; exact fv_sL (Or.inl hb)
  unfold ce_
  rw [e1, e2]
theorem ce_obj {g : GG} {ad : Nat → Nat} {h : HP} {a : Nat} (hk : kd a < 20) : ce_ g ad h a = .inr (kd a, (fdl a).mapIdx (fun j fd => fv_ ad h a j fd)) := by
  unfold ce_
  rw [if_neg (by omega), if_neg (by omega), if_neg (by omega), if_neg (by omega)]
theorem ce_int {g : GG} {ad : Nat → Nat} {h : HP} {a : Nat} (hk : kd a = 20) : ce_ g ad h a = .inl (g.2.1, ln a, .inl (h.1 a)) := by
  unfold ce_
  rw [if_pos hk]
theorem ce_bool {g : GG} {ad : Nat → Nat} {h : HP} {a : Nat} (hk : kd a = 21) : ce_ g ad h a = .inl (g.2.2.1, ln a, .inl (h.1 a)) := by
  unfold ce_
  rw [if_neg (by omega), if_pos hk]
theorem ce_txt {g : GG} {ad : Nat → Nat} {h : HP} {a : Nat} (hk : kd a = 22) : ce_ g ad h a = .inl (g.2.2.2.1, ln a, .inr (.inr (.inr (.inr (fun i => some (ad (rfx a i))))))) := by
  unfold ce_
  rw [if_neg (by omega), if_neg (by omega), if_pos hk]
theorem ce_sht {g : GG} {ad : Nat → Nat} {h : HP} {a : Nat} (hk : kd a = 23) : ce_ g ad h a = .inl (g.2.2.2.2, ln a, .inr (.inr (.inr (.inr (fun i => some (ad (rfx a i))))))) := by
  unfold ce_
  rw [if_neg (by omega), if_neg (by omega), if_neg (by omega), if_pos hk]
theorem mapIdx_set {α β : Type} (f f' : Nat → α → β) (l : List α) (j : Nat) (v : β) (h1 : ∀ x, l[j]? = some x → f' j x = v) (h2 : ∀ i x, i ≠ j → f' i x = f i x) : (l.mapIdx f).set j v = l.mapIdx f' := by
  apply List.ext_getElem?
  intro i
  rw [List.getElem?_set, List.getElem?_mapIdx, List.getElem?_mapIdx, List.length_mapIdx]
  by_cases hi : j = i
  · subst hi
    rw [if_pos rfl]
    by_cases hl : j < l.length
    · rw [if_pos hl, List.getElem?_eq_getElem hl]
      exact congrArg some (h1 _ (List.getElem?_eq_getElem hl)).symm
    · rw [if_neg hl, List.getElem?_eq_none (by omega)]
      rfl
  · rw [if_neg hi]
    cases l[i]? with
    | none => rfl
    | some x => exact congrArg some (h2 i x (Ne.symm hi)).symm
theorem pic_sI_f {g : GG} {ad : Nat → Nat} {h : HP} {a j t : Nat} {v : Int32} (ha : a < nc_c) (hk : kd a < 20) (hf : (fdl a)[j]? = some (0, t)) : (pic g ad h).set a (ad a, .inr (kd a, ((fdl a).mapIdx (fun j fd => fv_ ad h a j fd)).set j (.int v))) = pic g ad (sI h a j v) := by
  refine pic_set ha ?_ ce_sI_ne
  rw [ce_obj hk, mapIdx_set _ (fun i fd => fv_ ad (sI h a j v) a i fd)]
  · intro x hx
    rw [hf] at hx
    cases hx
    simp [fv_, sI]
  · intro i x hi
    exact fv_sI (Or.inr hi)
theorem pic_sL_f {g : GG} {ad : Nat → Nat} {h : HP} {a j t : Nat} {v : Int64} (ha : a < nc_c) (hk : kd a < 20) (hf : (fdl a)[j]? = some (1, t)) : (pic g ad h).set a (ad a, .inr (kd a, ((fdl a).mapIdx (fun j fd => fv_ ad h a j fd)).set j (.long v))) = pic g ad (sL h a j v) := by
  refine pic_set ha ?_ ce_sL_ne
  rw [ce_obj hk, mapIdx_set _ (fun i fd => fv_ ad (sL h a j v) a i fd)]
  · intro x hx
    rw [hf] at hx
    cases hx
    simp [fv_, sL]
  · intro i x hi
    exact fv_sL (Or.inr hi)
theorem pic_sI_a {g : GG} {ad : Nat → Nat} {h : HP} {a j : Nat} {v : Int32} (ha : a < nc_c) (hk : kd a = 20) : (pic g ad h).set a (ad a, .inl (g.2.1, ln a, .inl (upd (h.1 a) j v))) = pic g ad (sI h a j v) := by
  refine pic_set ha ?_ ce_sI_ne
  rw [ce_int hk]
  have e : upd (h.1 a) j v = (sI h a j v).1 a := by funext k; simp [upd, sI]
  rw [e]
theorem pic_sI_z {g : GG} {ad : Nat → Nat} {h : HP} {a j : Nat} {v : Int32} (ha : a < nc_c) (hk : kd a = 21) : (pic g ad h).set a (ad a, .inl (g.2.2.1, ln a, .inl (upd (h.1 a) j v))) = pic g ad (sI h a j v) := by
  refine pic_set ha ?_ ce_sI_ne
  rw [ce_bool hk]
  have e : upd (h.1 a) j v = (sI h a j v).1 a := by funext k; simp [upd, sI]
  rw [e]
/-- a whole array anew -/
def sA (h : HP) (a : Nat) (f : Nat → Int32) : HP := (fun b => if b = a then f else h.1 b, h.2.1, h.2.2)
theorem pic_sA {g : GG} {ad : Nat → Nat} {h : HP} {a : Nat} {f : Nat → Int32} (ha : a < nc_c) (hk : kd a = 20) : (pic g ad h).set a (ad a, .inl (g.2.1, ln a, .inl f)) = pic g ad (sA h a f) := by
  refine pic_set ha ?_ (fun b hb => ?_)
  · rw [ce_int hk]
    simp [sA]
  · have e1 : (sA h a f).1 b = h.1 b := by simp [sA, hb]
    have e2 : (fun (i : Nat) (fd : Nat × Nat) => fv_ ad (sA h a f) b i fd) = fun i fd => fv_ ad h b i fd := by funext i fd; simp [fv_, sA, hb]
    unfold ce_
    rw [e1, e2]
theorem pic_sR {g : GG} {ad : Nat → Nat} {h : HP} {a j t v : Nat} (ha : a < nc_c) (hk : kd a < 20) (hf : (fdl a)[j]? = some (3, t)) (ho : ∀ b i x, (b ≠ a ∨ i ≠ j) → (fdl b)[i]? = some x → x.1 ≠ 3) (hz : ∀ b, (fdl b).all (fun x => decide (x.1 ≤ 3)) = true) : (pic g ad h).set a (ad a, .inr (kd a, ((fdl a).mapIdx (fun j fd => fv_ ad h a j fd)).set j (.ref (ad v)))) = pic g ad (sR h v) := by
  have e0 : ∀ b i x, (b ≠ a ∨ i ≠ j) → (fdl b)[i]? = some x → fv_ ad (sR h v) b i x = fv_ ad h b i x := by
    intro b i x hn hx
    have h1 := ho b i x hn hx
    have h2 := List.all_eq_true.mp (hz b) x (List.mem_of_getElem? hx)
    have h2 : x.1 ≤ 3 := of_decide_eq_true h2
    have h3 : x.1 = 0 ∨ x.1 = 1 ∨ x.1 = 2 := by omega
    unfold fv_ sR
    rcases h3 with h3 | h3 | h3 <;> simp [h3]
  refine pic_set ha ?_ (fun b hb => ?_)
  · rw [ce_obj hk]
    congr 2
    apply List.ext_getElem?
    intro i
    rw [List.getElem?_set, List.getElem?_mapIdx, List.getElem?_mapIdx, List.length_mapIdx]
    by_cases hi : j = i
    · subst hi
      have hl : j < (fdl a).length := (List.getElem?_eq_some_iff.mp hf).1
      rw [if_pos rfl, if_pos hl, hf]
      simp [fv_, sR]
    · rw [if_neg hi]
      cases hx : (fdl a)[i]? with
      | none => rfl
      | some x => exact congrArg some (e0 a i x (Or.inr (Ne.symm hi)) hx).symm
  · have e2 : (fdl b).mapIdx (fun i fd => fv_ ad (sR h v) b i fd) = (fdl b).mapIdx (fun i fd => fv_ ad h b i fd) := by
      apply List.ext_getElem?
      intro i
      rw [List.getElem?_mapIdx, List.getElem?_mapIdx]
      cases hx : (fdl b)[i]? with
      | none => rfl
      | some x => exact congrArg some (e0 b i x (Or.inl hb) hx)
    unfold ce_
    rw [e2]
    rfl
theorem pic_D {g : GG} {ad : Nat → Nat} {h h' : HP} {A : Nat → Prop} (hD : va_D A (pic g ad h)) : va_D A (pic g ad h') := by
  have key : ∀ (k : Nat) (q : Nat × va_E), (pic g ad h')[k]? = some q → ∃ q0, (pic g ad h)[k]? = some q0 ∧ q0.1 = q.1 := by
    intro k q hk
    unfold pic at hk ⊢
    rw [List.getElem?_map] at hk ⊢
    cases hr : (List.range nc_c)[k]? with
    | none => rw [hr] at hk; cases hk
    | some b =>
      rw [hr] at hk
      cases hk
      exact ⟨_, rfl, rfl⟩
  refine ⟨fun i j x y hi hj hxy => ?_, fun k q hk => ?_⟩
  · obtain ⟨x0, h1, h2⟩ := key i x hi
    obtain ⟨y0, h3, h4⟩ := key j y hj
    exact hD.1 i j x0 y0 h1 h3 (h2.trans (hxy.trans h4.symm))
  · obtain ⟨q0, h1, h2⟩ := key k q hk
    rw [← h2]
    exact hD.2 k q0 h1
