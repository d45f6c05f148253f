/-! the judgement over the abstract heap: one world (72 cells), every method's body a walk in it -/
abbrev GG : Type := va_G × (ClassId × ClassId × ClassId × ClassId)
def ty4 (g : GG) : List (ClassId × FieldType) := [(g.2.1, .int), (g.2.2.1, .boolean), (g.2.2.2.1, .object "CamelStraws$Text"), (g.2.2.2.2, .object "CamelStraws$Sheet")]
def XW (U : State) : Prop := ∀ w ∈ tb_l, w.before #[] U = true
theorem okW_tab {w : Cond} (h : okW w = true) : w.onTables = true ∨ (∃ ty, w = .arrayClass ty) ∨ ∃ C, w = .arrayOver (.object C) := by
  unfold okW at h
  rcases Bool.or_eq_true_iff.mp h with h | h
  · rcases good_of_word h with h | ⟨ty, rfl⟩
    · exact Or.inl (Bool.and_eq_true_iff.mp h).1
    · exact Or.inr (Or.inl ⟨ty, rfl⟩)
  · unfold softW at h
    split at h
    · exact Or.inl rfl
    · exact Or.inl rfl
    · exact Or.inl rfl
    · exact Or.inr (Or.inr ⟨_, rfl⟩)
    · cases h
theorem okW_any {w : Cond} (hw : okW w = true) {A A' : Array Value} {u U : State} (h : u.vm = U.vm) (hb : w.before A u = true) : w.before A' U = true := by
  rcases okW_tab hw with ht | ⟨ty, rfl⟩ | ⟨C, rfl⟩
  · exact va_tabs ht h hb
  · have h2 : u.WarmedH U.vm := by rw [← h]; exact State.WarmedH.refl u
    exact word_at h2 (Or.inr ⟨_, rfl⟩) hb
  · exact va_AO.use (va_AO.moved (by rw [h]; exact Vm.Alike.refl _) (va_AO.of hb))
theorem XW.same {u U : State} (h : u.vm = U.vm) (hx : XW u) : XW U := fun w hw => okW_any (tb_ok w hw) h (hx w hw)
theorem XW.hts {s : State} (h : XW s) (args : Array Value) : ∀ w ∈ tb_l, w.before args s = true := fun w hw => okW_any (tb_ok w hw) rfl (h w hw)
theorem XW.warm {s U : State} (hW : s.WarmedH U.vm) (h : XW s) : XW U := by
  intro w hw
  have hb := h w hw
  have hk := tb_ok w hw
  unfold okW at hk
  rcases Bool.or_eq_true_iff.mp hk with hk | hk
  · exact word_at hW (good_of_word hk) hb
  · unfold softW at hk
    split at hk
    · exact va_Nw.warmM hW hb
    · exact va_Nw.warmD hW hb
    · exact va_Nw.warmC hW hb
    · exact va_AO.use (va_AO.moved hW.alike (va_AO.of hb))
    · cases hk
