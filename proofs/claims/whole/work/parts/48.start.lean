/-! the law from its entry: the two constructors, then the printed walk -/
theorem wc_Lw_7 : Cond.classLink "CamelStrawsLaw" 7 "CamelStraws" ∈ tb_l := (tb_in 85 (by decide +kernel) rfl)
theorem wI_CS : Cond.instantiable "CamelStraws" 11 ∈ tb_l := (tb_in 86 (by decide +kernel) rfl)
theorem wt_CS : Cond.initialized "CamelStraws" ∈ tb_l := (tb_in 69 (by decide +kernel) rfl)
theorem wc_Lw_10 : Cond.classLink "CamelStrawsLaw" 10 "CamelStrawsModel" ∈ tb_l := (tb_in 863 (by decide +kernel) rfl)
theorem wI_Mo : Cond.instantiable "CamelStrawsModel" 45 ∈ tb_l := (tb_in 864 (by decide +kernel) rfl)
theorem wt_Mo : Cond.initialized "CamelStrawsModel" ∈ tb_l := (tb_in 80 (by decide +kernel) rfl)
theorem wk_Lw_9 : Cond.methodLink "CamelStrawsLaw" 9 y_CS_init ∈ tb_l := (tb_in 87 (by decide +kernel) rfl)
theorem ok_CS_init : MOk y_CS_init b_CS_init 1 none 0 := ⟨(tb_in 89 (by decide +kernel) rfl), (tb_in 69 (by decide +kernel) rfl), by decide +kernel, by decide +kernel, by decide +kernel⟩
theorem wi_CS_init : Cond.instanceMethod y_CS_init ∈ tb_l := (tb_in 88 (by decide +kernel) rfl)
theorem wk_Lw_12 : Cond.methodLink "CamelStrawsLaw" 12 y_Mo_init ∈ tb_l := (tb_in 865 (by decide +kernel) rfl)
theorem ok_Mo_init : MOk y_Mo_init b_Mo_init 1 none 0 := ⟨(tb_in 867 (by decide +kernel) rfl), (tb_in 80 (by decide +kernel) rfl), by decide +kernel, by decide +kernel, by decide +kernel⟩
theorem wi_Mo_init : Cond.instanceMethod y_Mo_init ∈ tb_l := (tb_in 866 (by decide +kernel) rfl)
def hz_ : HP := (fun a => if a = 70 then (fun j => if j = 1 then 3 else if j = 3 then (-1) else 0) else (if a = 66 then (fun j => if j = 1 then 4 else if j = 3 then (-1) else 0) else (if a = 42 then (fun j => if j = 1 then (-1) else 0) else (if a = 40 then (fun j => if j = 1 then (-1) else 0) else (if a = 38 then (fun j => if j = 1 then (-1) else 0) else (if a = 36 then (fun j => if j = 1 then (-1) else 0) else (fun _ => 0)))))), fun _ _ => 0, 60)
theorem V_kn {x : KX} {k n k' n' pc : Nat} {lv : List (Nat × Value)} {st : List Value} {ws : va_W} (hk : k = k') (hn : n = n') (kk : Vw x k' n' pc lv st ws) : Vw x k n pc lv st ws := by
  subst hk
  subst hn
  exact kk
set_option maxRecDepth 20000 in
theorem pz_0 (g : GG) (ad : Nat → Nat) : ce_ g ad hz_ 0 = .inl (g.2.1, 60, .inl (fun _ => 0)) := rfl
set_option maxRecDepth 20000 in
theorem pz_1 (g : GG) (ad : Nat → Nat) : ce_ g ad hz_ 1 = .inl (g.2.1, 240, .inl (fun _ => 0)) := rfl
set_option maxRecDepth 20000 in
theorem pz_2 (g : GG) (ad : Nat → Nat) : ce_ g ad hz_ 2 = .inl (g.2.1, 4, .inl (fun _ => 0)) := rfl
set_option maxRecDepth 20000 in
theorem pz_3 (g : GG) (ad : Nat → Nat) : ce_ g ad hz_ 3 = .inl (g.2.1, 4, .inl (fun _ => 0)) := rfl
set_option maxRecDepth 20000 in
theorem pz_4 (g : GG) (ad : Nat → Nat) : ce_ g ad hz_ 4 = .inl (g.2.2.1, 4, .inl (fun _ => 0)) := rfl
set_option maxRecDepth 20000 in
theorem pz_5 (g : GG) (ad : Nat → Nat) : ce_ g ad hz_ 5 = .inl (g.2.1, 240, .inl (fun _ => 0)) := rfl
set_option maxRecDepth 20000 in
theorem pz_6 (g : GG) (ad : Nat → Nat) : ce_ g ad hz_ 6 = .inl (g.2.1, 8, .inl (fun _ => 0)) := rfl
set_option maxRecDepth 20000 in
theorem pz_7 (g : GG) (ad : Nat → Nat) : ce_ g ad hz_ 7 = .inl (g.2.1, 8, .inl (fun _ => 0)) := rfl
set_option maxRecDepth 20000 in
theorem pz_8 (g : GG) (ad : Nat → Nat) : ce_ g ad hz_ 8 = .inl (g.2.1, 8, .inl (fun _ => 0)) := rfl
set_option maxRecDepth 20000 in
theorem pz_9 (g : GG) (ad : Nat → Nat) : ce_ g ad hz_ 9 = .inl (g.2.1, 2, .inl (fun _ => 0)) := rfl
set_option maxRecDepth 20000 in
theorem pz_10 (g : GG) (ad : Nat → Nat) : ce_ g ad hz_ 10 = .inl (g.2.1, 24, .inl (fun _ => 0)) := rfl
set_option maxRecDepth 20000 in
theorem pz_11 (g : GG) (ad : Nat → Nat) : ce_ g ad hz_ 11 = .inl (g.2.1, 192, .inl (fun _ => 0)) := rfl
set_option maxRecDepth 20000 in
theorem pz_12 (g : GG) (ad : Nat → Nat) : ce_ g ad hz_ 12 = .inl (g.2.1, 192, .inl (fun _ => 0)) := rfl
set_option maxRecDepth 20000 in
theorem pz_13 (g : GG) (ad : Nat → Nat) : ce_ g ad hz_ 13 = .inl (g.2.1, 192, .inl (fun _ => 0)) := rfl
set_option maxRecDepth 20000 in
theorem pz_14 (g : GG) (ad : Nat → Nat) : ce_ g ad hz_ 14 = .inl (g.2.1, 192, .inl (fun _ => 0)) := rfl
set_option maxRecDepth 20000 in
theorem pz_15 (g : GG) (ad : Nat → Nat) : ce_ g ad hz_ 15 = .inl (g.2.1, 192, .inl (fun _ => 0)) := rfl
set_option maxRecDepth 20000 in
theorem pz_16 (g : GG) (ad : Nat → Nat) : ce_ g ad hz_ 16 = .inl (g.2.1, 192, .inl (fun _ => 0)) := rfl
set_option maxRecDepth 20000 in
theorem pz_17 (g : GG) (ad : Nat → Nat) : ce_ g ad hz_ 17 = .inl (g.2.1, 8, .inl (fun _ => 0)) := rfl
set_option maxRecDepth 20000 in
theorem pz_18 (g : GG) (ad : Nat → Nat) : ce_ g ad hz_ 18 = .inl (g.2.1, 8, .inl (fun _ => 0)) := rfl
set_option maxRecDepth 20000 in
theorem pz_19 (g : GG) (ad : Nat → Nat) : ce_ g ad hz_ 19 = .inl (g.2.1, 8, .inl (fun _ => 0)) := rfl
set_option maxRecDepth 20000 in
theorem pz_20 (g : GG) (ad : Nat → Nat) : ce_ g ad hz_ 20 = .inl (g.2.1, 8, .inl (fun _ => 0)) := rfl
set_option maxRecDepth 20000 in
theorem pz_21 (g : GG) (ad : Nat → Nat) : ce_ g ad hz_ 21 = .inl (g.2.1, 8, .inl (fun _ => 0)) := rfl
set_option maxRecDepth 20000 in
theorem pz_22 (g : GG) (ad : Nat → Nat) : ce_ g ad hz_ 22 = .inl (g.2.1, 8, .inl (fun _ => 0)) := rfl
set_option maxRecDepth 20000 in
theorem pz_23 (g : GG) (ad : Nat → Nat) : ce_ g ad hz_ 23 = .inl (g.2.1, 17, .inl (fun _ => 0)) := rfl
set_option maxRecDepth 20000 in
theorem pz_24 (g : GG) (ad : Nat → Nat) : ce_ g ad hz_ 24 = .inl (g.2.1, 17, .inl (fun _ => 0)) := rfl
set_option maxRecDepth 20000 in
theorem pz_25 (g : GG) (ad : Nat → Nat) : ce_ g ad hz_ 25 = .inl (g.2.1, 8, .inl (fun _ => 0)) := rfl
set_option maxRecDepth 20000 in
theorem pz_26 (g : GG) (ad : Nat → Nat) : ce_ g ad hz_ 26 = .inl (g.2.1, 8, .inl (fun _ => 0)) := rfl
set_option maxRecDepth 20000 in
theorem pz_27 (g : GG) (ad : Nat → Nat) : ce_ g ad hz_ 27 = .inl (g.2.1, 11, .inl (fun _ => 0)) := rfl
set_option maxRecDepth 20000 in
theorem pz_28 (g : GG) (ad : Nat → Nat) : ce_ g ad hz_ 28 = .inl (g.2.1, 11, .inl (fun _ => 0)) := rfl
set_option maxRecDepth 20000 in
theorem pz_29 (g : GG) (ad : Nat → Nat) : ce_ g ad hz_ 29 = .inl (g.2.1, 11, .inl (fun _ => 0)) := rfl
set_option maxRecDepth 20000 in
theorem pz_30 (g : GG) (ad : Nat → Nat) : ce_ g ad hz_ 30 = .inl (g.2.1, 9, .inl (fun _ => 0)) := rfl
set_option maxRecDepth 20000 in
theorem pz_31 (g : GG) (ad : Nat → Nat) : ce_ g ad hz_ 31 = .inl (g.2.1, 9, .inl (fun _ => 0)) := rfl
set_option maxRecDepth 20000 in
theorem pz_32 (g : GG) (ad : Nat → Nat) : ce_ g ad hz_ 32 = .inl (g.2.1, 78, .inl (fun _ => 0)) := rfl
set_option maxRecDepth 20000 in
theorem pz_33 (g : GG) (ad : Nat → Nat) : ce_ g ad hz_ 33 = .inl (g.2.1, 2, .inl (fun _ => 0)) := rfl
set_option maxRecDepth 20000 in
theorem pz_34 (g : GG) (ad : Nat → Nat) : ce_ g ad hz_ 34 = .inr (10, [.ref (ad 33), .ref (ad 32), .int 0, .ref (ad 31), .ref (ad 30), .int 0, .ref (ad 29), .ref (ad 28), .ref (ad 27), .int 0, .ref (ad 26), .ref (ad 25), .int 0, .ref (ad 24), .ref (ad 23), .int 0, .int 0, .ref (ad 22), .ref (ad 21), .ref (ad 20), .ref (ad 19), .ref (ad 18), .ref (ad 17), .int 0, .int 0, .int 0, .ref (ad 16), .ref (ad 15), .ref (ad 14), .ref (ad 13), .ref (ad 12), .ref (ad 11), .ref (ad 10), .ref (ad 9), .int 0, .ref (ad 8), .ref (ad 7), .ref (ad 6), .ref (ad 5), .ref (ad 4), .ref (ad 3), .ref (ad 2), .ref (ad 1), .ref (ad 0), .int 0]) := by
  rw [ce_obj (by decide)]
  show Sum.inr (10, List.mapIdx (fun j fd => fv_ ad hz_ 34 j fd) [(2, 33), (2, 32), (0, 0), (2, 31), (2, 30), (0, 0), (2, 29), (2, 28), (2, 27), (0, 0), (2, 26), (2, 25), (0, 0), (2, 24), (2, 23), (0, 0), (0, 0), (2, 22), (2, 21), (2, 20), (2, 19), (2, 18), (2, 17), (0, 0), (0, 0), (0, 0), (2, 16), (2, 15), (2, 14), (2, 13), (2, 12), (2, 11), (2, 10), (2, 9), (0, 0), (2, 8), (2, 7), (2, 6), (2, 5), (2, 4), (2, 3), (2, 2), (2, 1), (2, 0), (0, 0)]) = _
  simp only [List.mapIdx_cons, List.mapIdx_nil]
  rfl
set_option maxRecDepth 20000 in
theorem pz_35 (g : GG) (ad : Nat → Nat) : ce_ g ad hz_ 35 = .inl (g.2.1, 60, .inl (fun _ => 0)) := rfl
set_option maxRecDepth 20000 in
theorem pz_36 (g : GG) (ad : Nat → Nat) : ce_ g ad hz_ 36 = .inr (7, [.ref (ad 35), .int (-1), .int 0]) := rfl
set_option maxRecDepth 20000 in
theorem pz_37 (g : GG) (ad : Nat → Nat) : ce_ g ad hz_ 37 = .inl (g.2.1, 60, .inl (fun _ => 0)) := rfl
set_option maxRecDepth 20000 in
theorem pz_38 (g : GG) (ad : Nat → Nat) : ce_ g ad hz_ 38 = .inr (7, [.ref (ad 37), .int (-1), .int 0]) := rfl
set_option maxRecDepth 20000 in
theorem pz_39 (g : GG) (ad : Nat → Nat) : ce_ g ad hz_ 39 = .inl (g.2.1, 60, .inl (fun _ => 0)) := rfl
set_option maxRecDepth 20000 in
theorem pz_40 (g : GG) (ad : Nat → Nat) : ce_ g ad hz_ 40 = .inr (7, [.ref (ad 39), .int (-1), .int 0]) := rfl
set_option maxRecDepth 20000 in
theorem pz_41 (g : GG) (ad : Nat → Nat) : ce_ g ad hz_ 41 = .inl (g.2.1, 60, .inl (fun _ => 0)) := rfl
set_option maxRecDepth 20000 in
theorem pz_42 (g : GG) (ad : Nat → Nat) : ce_ g ad hz_ 42 = .inr (7, [.ref (ad 41), .int (-1), .int 0]) := rfl
set_option maxRecDepth 20000 in
theorem pz_43 (g : GG) (ad : Nat → Nat) : ce_ g ad hz_ 43 = .inl (g.2.2.2.2, 4, .inr (.inr (.inr (.inr (fun i => some (ad (rfx 43 i))))))) := rfl
set_option maxRecDepth 20000 in
theorem pz_44 (g : GG) (ad : Nat → Nat) : ce_ g ad hz_ 44 = .inr (5, [.ref (ad 54), .long 0, .long 0]) := rfl
set_option maxRecDepth 20000 in
theorem pz_45 (g : GG) (ad : Nat → Nat) : ce_ g ad hz_ 45 = .inl (g.2.1, 240, .inl (fun _ => 0)) := rfl
set_option maxRecDepth 20000 in
theorem pz_46 (g : GG) (ad : Nat → Nat) : ce_ g ad hz_ 46 = .inl (g.2.1, 8, .inl (fun _ => 0)) := rfl
set_option maxRecDepth 20000 in
theorem pz_47 (g : GG) (ad : Nat → Nat) : ce_ g ad hz_ 47 = .inl (g.2.1, 8, .inl (fun _ => 0)) := rfl
set_option maxRecDepth 20000 in
theorem pz_48 (g : GG) (ad : Nat → Nat) : ce_ g ad hz_ 48 = .inl (g.2.1, 8, .inl (fun _ => 0)) := rfl
set_option maxRecDepth 20000 in
theorem pz_49 (g : GG) (ad : Nat → Nat) : ce_ g ad hz_ 49 = .inr (4, [.ref (ad 54), .ref (ad 48), .ref (ad 47), .ref (ad 46), .int 0, .ref (ad 45)]) := rfl
set_option maxRecDepth 20000 in
theorem pz_50 (g : GG) (ad : Nat → Nat) : ce_ g ad hz_ 50 = .inr (6, [.ref (ad 54), .int 0, .int 0]) := rfl
set_option maxRecDepth 20000 in
theorem pz_51 (g : GG) (ad : Nat → Nat) : ce_ g ad hz_ 51 = .inl (g.2.1, 24, .inl (fun _ => 0)) := rfl
set_option maxRecDepth 20000 in
theorem pz_52 (g : GG) (ad : Nat → Nat) : ce_ g ad hz_ 52 = .inl (g.2.1, 192, .inl (fun _ => 0)) := rfl
set_option maxRecDepth 20000 in
theorem pz_53 (g : GG) (ad : Nat → Nat) : ce_ g ad hz_ 53 = .inr (9, [.ref (ad 52), .int 0, .int 0, .int 0, .int 0, .int 0, .int 0, .int 0, .int 0, .int 0, .int 0, .int 0, .int 0]) := rfl
set_option maxRecDepth 20000 in
theorem pz_54 (g : GG) (ad : Nat → Nat) : ce_ g ad hz_ 54 = .inr (3, [.ref (ad 70), .ref (ad 66), .ref (ad 60), .int 0, .ref (ad 53), .ref (ad 51)]) := rfl
set_option maxRecDepth 20000 in
theorem pz_55 (g : GG) (ad : Nat → Nat) : ce_ g ad hz_ 55 = .inl (g.2.1, 8, .inl (fun _ => 0)) := rfl
set_option maxRecDepth 20000 in
theorem pz_56 (g : GG) (ad : Nat → Nat) : ce_ g ad hz_ 56 = .inl (g.2.1, 8, .inl (fun _ => 0)) := rfl
set_option maxRecDepth 20000 in
theorem pz_57 (g : GG) (ad : Nat → Nat) : ce_ g ad hz_ 57 = .inr (8, [.ref (ad 56), .ref (ad 55), .int 0]) := rfl
set_option maxRecDepth 20000 in
theorem pz_58 (g : GG) (ad : Nat → Nat) : ce_ g ad hz_ 58 = .inl (g.2.1, 8, .inl (fun _ => 0)) := rfl
set_option maxRecDepth 20000 in
theorem pz_59 (g : GG) (ad : Nat → Nat) : ce_ g ad hz_ 59 = .inl (g.2.1, 8, .inl (fun _ => 0)) := rfl
set_option maxRecDepth 20000 in
theorem pz_60 (g : GG) (ad : Nat → Nat) : ce_ g ad hz_ 60 = .inr (8, [.ref (ad 59), .ref (ad 58), .int 0]) := rfl
set_option maxRecDepth 20000 in
theorem pz_61 (g : GG) (ad : Nat → Nat) : ce_ g ad hz_ 61 = .inl (g.2.2.2.1, 2, .inr (.inr (.inr (.inr (fun i => some (ad (rfx 61 i))))))) := rfl
set_option maxRecDepth 20000 in
theorem pz_62 (g : GG) (ad : Nat → Nat) : ce_ g ad hz_ 62 = .inl (g.2.1, 10, .inl (fun _ => 0)) := rfl
set_option maxRecDepth 20000 in
theorem pz_63 (g : GG) (ad : Nat → Nat) : ce_ g ad hz_ 63 = .inl (g.2.1, 10, .inl (fun _ => 0)) := rfl
set_option maxRecDepth 20000 in
theorem pz_64 (g : GG) (ad : Nat → Nat) : ce_ g ad hz_ 64 = .inl (g.2.1, 10, .inl (fun _ => 0)) := rfl
set_option maxRecDepth 20000 in
theorem pz_65 (g : GG) (ad : Nat → Nat) : ce_ g ad hz_ 65 = .inl (g.2.1, 39, .inl (fun _ => 0)) := rfl
set_option maxRecDepth 20000 in
theorem pz_66 (g : GG) (ad : Nat → Nat) : ce_ g ad hz_ 66 = .inr (1, [.ref (ad 65), .int 4, .int 0, .int (-1), .int 0, .ref (ad 64), .ref (ad 63), .ref (ad 62)]) := rfl
set_option maxRecDepth 20000 in
theorem pz_67 (g : GG) (ad : Nat → Nat) : ce_ g ad hz_ 67 = .inl (g.2.1, 8, .inl (fun _ => 0)) := rfl
set_option maxRecDepth 20000 in
theorem pz_68 (g : GG) (ad : Nat → Nat) : ce_ g ad hz_ 68 = .inl (g.2.1, 8, .inl (fun _ => 0)) := rfl
set_option maxRecDepth 20000 in
theorem pz_69 (g : GG) (ad : Nat → Nat) : ce_ g ad hz_ 69 = .inl (g.2.1, 23, .inl (fun _ => 0)) := rfl
set_option maxRecDepth 20000 in
theorem pz_70 (g : GG) (ad : Nat → Nat) : ce_ g ad hz_ 70 = .inr (2, [.ref (ad 69), .int 3, .int 0, .int (-1), .int 0, .ref (ad 68), .ref (ad 67)]) := rfl
set_option maxRecDepth 20000 in
theorem pz_71 (g : GG) (ad : Nat → Nat) : ce_ g ad hz_ 71 = .inr (0, [.ref (ad 70), .ref (ad 66), .ref (ad 61), .ref (ad 60), .ref (ad 57), .ref (ad 54), .ref (ad 50), .ref (ad 49), .ref (ad 44), .ref (ad 43), .int 0]) := rfl
set_option maxRecDepth 20000 in
theorem pic_hz (g : GG) (ad : Nat → Nat) : pic g ad hz_ = [(ad 0, .inl (g.2.1, 60, .inl (fun _ => 0))), (ad 1, .inl (g.2.1, 240, .inl (fun _ => 0))), (ad 2, .inl (g.2.1, 4, .inl (fun _ => 0))), (ad 3, .inl (g.2.1, 4, .inl (fun _ => 0))), (ad 4, .inl (g.2.2.1, 4, .inl (fun _ => 0))), (ad 5, .inl (g.2.1, 240, .inl (fun _ => 0))), (ad 6, .inl (g.2.1, 8, .inl (fun _ => 0))), (ad 7, .inl (g.2.1, 8, .inl (fun _ => 0))), (ad 8, .inl (g.2.1, 8, .inl (fun _ => 0))), (ad 9, .inl (g.2.1, 2, .inl (fun _ => 0))), (ad 10, .inl (g.2.1, 24, .inl (fun _ => 0))), (ad 11, .inl (g.2.1, 192, .inl (fun _ => 0))), (ad 12, .inl (g.2.1, 192, .inl (fun _ => 0))), (ad 13, .inl (g.2.1, 192, .inl (fun _ => 0))), (ad 14, .inl (g.2.1, 192, .inl (fun _ => 0))), (ad 15, .inl (g.2.1, 192, .inl (fun _ => 0))), (ad 16, .inl (g.2.1, 192, .inl (fun _ => 0))), (ad 17, .inl (g.2.1, 8, .inl (fun _ => 0))), (ad 18, .inl (g.2.1, 8, .inl (fun _ => 0))), (ad 19, .inl (g.2.1, 8, .inl (fun _ => 0))), (ad 20, .inl (g.2.1, 8, .inl (fun _ => 0))), (ad 21, .inl (g.2.1, 8, .inl (fun _ => 0))), (ad 22, .inl (g.2.1, 8, .inl (fun _ => 0))), (ad 23, .inl (g.2.1, 17, .inl (fun _ => 0))), (ad 24, .inl (g.2.1, 17, .inl (fun _ => 0))), (ad 25, .inl (g.2.1, 8, .inl (fun _ => 0))), (ad 26, .inl (g.2.1, 8, .inl (fun _ => 0))), (ad 27, .inl (g.2.1, 11, .inl (fun _ => 0))), (ad 28, .inl (g.2.1, 11, .inl (fun _ => 0))), (ad 29, .inl (g.2.1, 11, .inl (fun _ => 0))), (ad 30, .inl (g.2.1, 9, .inl (fun _ => 0))), (ad 31, .inl (g.2.1, 9, .inl (fun _ => 0))), (ad 32, .inl (g.2.1, 78, .inl (fun _ => 0))), (ad 33, .inl (g.2.1, 2, .inl (fun _ => 0))), (ad 34, .inr (10, [.ref (ad 33), .ref (ad 32), .int 0, .ref (ad 31), .ref (ad 30), .int 0, .ref (ad 29), .ref (ad 28), .ref (ad 27), .int 0, .ref (ad 26), .ref (ad 25), .int 0, .ref (ad 24), .ref (ad 23), .int 0, .int 0, .ref (ad 22), .ref (ad 21), .ref (ad 20), .ref (ad 19), .ref (ad 18), .ref (ad 17), .int 0, .int 0, .int 0, .ref (ad 16), .ref (ad 15), .ref (ad 14), .ref (ad 13), .ref (ad 12), .ref (ad 11), .ref (ad 10), .ref (ad 9), .int 0, .ref (ad 8), .ref (ad 7), .ref (ad 6), .ref (ad 5), .ref (ad 4), .ref (ad 3), .ref (ad 2), .ref (ad 1), .ref (ad 0), .int 0])), (ad 35, .inl (g.2.1, 60, .inl (fun _ => 0))), (ad 36, .inr (7, [.ref (ad 35), .int (-1), .int 0])), (ad 37, .inl (g.2.1, 60, .inl (fun _ => 0))), (ad 38, .inr (7, [.ref (ad 37), .int (-1), .int 0])), (ad 39, .inl (g.2.1, 60, .inl (fun _ => 0))), (ad 40, .inr (7, [.ref (ad 39), .int (-1), .int 0])), (ad 41, .inl (g.2.1, 60, .inl (fun _ => 0))), (ad 42, .inr (7, [.ref (ad 41), .int (-1), .int 0])), (ad 43, .inl (g.2.2.2.2, 4, .inr (.inr (.inr (.inr (fun i => some (ad (rfx 43 i)))))))), (ad 44, .inr (5, [.ref (ad 54), .long 0, .long 0])), (ad 45, .inl (g.2.1, 240, .inl (fun _ => 0))), (ad 46, .inl (g.2.1, 8, .inl (fun _ => 0))), (ad 47, .inl (g.2.1, 8, .inl (fun _ => 0))), (ad 48, .inl (g.2.1, 8, .inl (fun _ => 0))), (ad 49, .inr (4, [.ref (ad 54), .ref (ad 48), .ref (ad 47), .ref (ad 46), .int 0, .ref (ad 45)])), (ad 50, .inr (6, [.ref (ad 54), .int 0, .int 0])), (ad 51, .inl (g.2.1, 24, .inl (fun _ => 0))), (ad 52, .inl (g.2.1, 192, .inl (fun _ => 0))), (ad 53, .inr (9, [.ref (ad 52), .int 0, .int 0, .int 0, .int 0, .int 0, .int 0, .int 0, .int 0, .int 0, .int 0, .int 0, .int 0])), (ad 54, .inr (3, [.ref (ad 70), .ref (ad 66), .ref (ad 60), .int 0, .ref (ad 53), .ref (ad 51)])), (ad 55, .inl (g.2.1, 8, .inl (fun _ => 0))), (ad 56, .inl (g.2.1, 8, .inl (fun _ => 0))), (ad 57, .inr (8, [.ref (ad 56), .ref (ad 55), .int 0])), (ad 58, .inl (g.2.1, 8, .inl (fun _ => 0))), (ad 59, .inl (g.2.1, 8, .inl (fun _ => 0))), (ad 60, .inr (8, [.ref (ad 59), .ref (ad 58), .int 0])), (ad 61, .inl (g.2.2.2.1, 2, .inr (.inr (.inr (.inr (fun i => some (ad (rfx 61 i)))))))), (ad 62, .inl (g.2.1, 10, .inl (fun _ => 0))), (ad 63, .inl (g.2.1, 10, .inl (fun _ => 0))), (ad 64, .inl (g.2.1, 10, .inl (fun _ => 0))), (ad 65, .inl (g.2.1, 39, .inl (fun _ => 0))), (ad 66, .inr (1, [.ref (ad 65), .int 4, .int 0, .int (-1), .int 0, .ref (ad 64), .ref (ad 63), .ref (ad 62)])), (ad 67, .inl (g.2.1, 8, .inl (fun _ => 0))), (ad 68, .inl (g.2.1, 8, .inl (fun _ => 0))), (ad 69, .inl (g.2.1, 23, .inl (fun _ => 0))), (ad 70, .inr (2, [.ref (ad 69), .int 3, .int 0, .int (-1), .int 0, .ref (ad 68), .ref (ad 67)])), (ad 71, .inr (0, [.ref (ad 70), .ref (ad 66), .ref (ad 61), .ref (ad 60), .ref (ad 57), .ref (ad 54), .ref (ad 50), .ref (ad 49), .ref (ad 44), .ref (ad 43), .int 0]))] := by
  unfold pic
  rw [show List.range nc_c = [0, 1, 2, 3, 4, 5, 6, 7, 8, 9, 10, 11, 12, 13, 14, 15, 16, 17, 18, 19, 20, 21, 22, 23, 24, 25, 26, 27, 28, 29, 30, 31, 32, 33, 34, 35, 36, 37, 38, 39, 40, 41, 42, 43, 44, 45, 46, 47, 48, 49, 50, 51, 52, 53, 54, 55, 56, 57, 58, 59, 60, 61, 62, 63, 64, 65, 66, 67, 68, 69, 70, 71] from rfl]
  simp only [List.map_cons, List.map_nil, pz_0, pz_1, pz_2, pz_3, pz_4, pz_5, pz_6, pz_7, pz_8, pz_9, pz_10, pz_11, pz_12, pz_13, pz_14, pz_15, pz_16, pz_17, pz_18, pz_19, pz_20, pz_21, pz_22, pz_23, pz_24, pz_25, pz_26, pz_27, pz_28, pz_29, pz_30, pz_31, pz_32, pz_33, pz_34, pz_35, pz_36, pz_37, pz_38, pz_39, pz_40, pz_41, pz_42, pz_43, pz_44, pz_45, pz_46, pz_47, pz_48, pz_49, pz_50, pz_51, pz_52, pz_53, pz_54, pz_55, pz_56, pz_57, pz_58, pz_59, pz_60, pz_61, pz_62, pz_63, pz_64, pz_65, pz_66, pz_67, pz_68, pz_69, pz_70, pz_71]
theorem V_eqA {x : KX} {k n pc : Nat} {lv : List (Nat × Value)} {st : List Value} {ws : va_W} {q0 a N : Nat} {cA : ClassId} {f f' : Nat → Option Nat} (hw : ws[q0]? = some (a, .inl (cA, N, .inr (.inr (.inr (.inr f)))))) (hf : ∀ i, i < N → f i = f' i) (kk : Vw x k n pc lv st (ws.set q0 (a, .inl (cA, N, .inr (.inr (.inr (.inr f'))))))) : Vw x k n pc lv st ws := by
  intro p e s m args below meth c H locs A Z ls S r hl hE
  have he : vp_cell cA (N, .inr (.inr (.inr (.inr f)))) = vp_cell cA (N, .inr (.inr (.inr (.inr f')))) := by
    rw [vp_cell_q, vp_cell_q]
    unfold arrV
    congr 2
    funext j
    show va_rf (f j.val) = va_rf (f' j.val)
    rw [hf j.val j.isLt]
  refine kk p e s m args below meth c H locs A Z ls S ⟨r.1.set r.2.1 hw ?_ (fun _ _ => rfl), r.2.1.set hw, r.2.2⟩ hl hE
  have h0 : H[a]? = some (vp_cell cA (N, .inr (.inr (.inr (.inr f))))) := r.1 q0 _ hw
  rw [he] at h0
  exact h0
set_option maxRecDepth 100000 in
set_option maxHeartbeats 16000000 in
theorem law_head (l : Launch) (g : GG) (Q : Option Value → va_W → Prop) (b0 L0 : Nat) (xs0 : Nat → Int32) (hp : ∀ ad, ∃ q : Int32 × HP, f_law L0 xs0 hz_ = some q ∧ Q (enI q).1 (pic g ad (enI q).2)) : Vw (kx_Lw_law l g b0 L0 xs0 Q) 0 0 0 [(0, .ref b0)] [] [] := by
  refine V_new (fs := [.null, .null, .null, .null, .null, .null, .null, .null, .null, .null, .int 0]) cq_0 wc_Lw_7 wI_CS wt_CS (fun j hj => by rcases (show j = 0 ∨ j = 1 ∨ j = 2 ∨ j = 3 ∨ j = 4 ∨ j = 5 ∨ j = 6 ∨ j = 7 ∨ j = 8 ∨ j = 9 ∨ j = 10 by omega) with rfl | rfl | rfl | rfl | rfl | rfl | rfl | rfl | rfl | rfl | rfl <;> rfl) (Nat.le_of_ble_eq_true rfl) (Nat.le_of_ble_eq_true rfl) d_Lw_law_0 (fun x1 => ?_)
  refine V_dup rfl d_Lw_law_3 ?_
  refine V_callI (rest := [.ref x1]) (n_CS_init l g _ _) ok_CS_init rfl wi_CS_init wk_Lw_9 ⟨⟨rfl, rfl⟩, ⟨(Nat.le_of_ble_eq_true rfl), (Nat.le_of_ble_eq_true rfl)⟩, (Nat.le_of_ble_eq_true rfl), (Nat.le_of_ble_eq_true rfl)⟩ rfl rfl (Nat.le_of_ble_eq_true rfl) d_Lw_law_4 (fun ws9 hq9 => ?_)
  obtain ⟨p1, p2, p3, p4, p5, p6, p7, p8, p9, p10, p11, p12, p13, p14, p15, p16, p17, p18, p19, p20, p21, p22, p23, p24, p25, p26, p27, p28, p29, p30, p31, p32, p33, p34, p35, p36, rfl⟩ := hq9
  refine V_ws (ws' := (p36, .inl (g.2.1, 60, .inl (fun _ => 0))) :: (p35, .inr (7, [.ref p36, .int (-1), .int 0])) :: (p34, .inl (g.2.1, 60, .inl (fun _ => 0))) :: (p33, .inr (7, [.ref p34, .int (-1), .int 0])) :: (p32, .inl (g.2.1, 60, .inl (fun _ => 0))) :: (p31, .inr (7, [.ref p32, .int (-1), .int 0])) :: (p30, .inl (g.2.1, 60, .inl (fun _ => 0))) :: (p29, .inr (7, [.ref p30, .int (-1), .int 0])) :: (p28, .inl (g.2.2.2.2, 4, .inr (.inr (.inr (.inr (va_up (va_up (va_up (va_up (fun _ => none) (Int32.toNatClampNeg 0) (some p29)) (Int32.toNatClampNeg 1) (some p31)) (Int32.toNatClampNeg 2) (some p33)) (Int32.toNatClampNeg 3) (some p35))))))) :: (p27, .inr (5, [.ref p17, .long 0, .long 0])) :: (p26, .inl (g.2.1, 240, .inl (fun _ => 0))) :: (p25, .inl (g.2.1, 8, .inl (fun _ => 0))) :: (p24, .inl (g.2.1, 8, .inl (fun _ => 0))) :: (p23, .inl (g.2.1, 8, .inl (fun _ => 0))) :: (p22, .inr (4, [.ref p17, .ref p23, .ref p24, .ref p25, .int 0, .ref p26])) :: (p21, .inr (6, [.ref p17, .int 0, .int 0])) :: (p20, .inl (g.2.1, 24, .inl (fun _ => 0))) :: (p19, .inl (g.2.1, 192, .inl (fun _ => 0))) :: (p18, .inr (9, [.ref p19, .int 0, .int 0, .int 0, .int 0, .int 0, .int 0, .int 0, .int 0, .int 0, .int 0, .int 0, .int 0])) :: (p17, .inr (3, [.ref p1, .ref p5, .ref p11, .int 0, .ref p18, .ref p20])) :: (p16, .inl (g.2.1, 8, .inl (fun _ => 0))) :: (p15, .inl (g.2.1, 8, .inl (fun _ => 0))) :: (p14, .inr (8, [.ref p15, .ref p16, .int 0])) :: (p13, .inl (g.2.1, 8, .inl (fun _ => 0))) :: (p12, .inl (g.2.1, 8, .inl (fun _ => 0))) :: (p11, .inr (8, [.ref p12, .ref p13, .int 0])) :: (p10, .inl (g.2.2.2.1, 2, .inr (.inr (.inr (.inr (va_up (va_up (fun _ => none) (Int32.toNatClampNeg 0) (some p1)) (Int32.toNatClampNeg 1) (some p5))))))) :: (p9, .inl (g.2.1, 10, .inl (fun _ => 0))) :: (p8, .inl (g.2.1, 10, .inl (fun _ => 0))) :: (p7, .inl (g.2.1, 10, .inl (fun _ => 0))) :: (p6, .inl (g.2.1, 39, .inl (fun _ => 0))) :: (p5, .inr (1, [.ref p6, .int 4, .int 0, .int (-1), .int 0, .ref p7, .ref p8, .ref p9])) :: (p4, .inl (g.2.1, 8, .inl (fun _ => 0))) :: (p3, .inl (g.2.1, 8, .inl (fun _ => 0))) :: (p2, .inl (g.2.1, 23, .inl (fun _ => 0))) :: (p1, .inr (2, [.ref p2, .int 3, .int 0, .int (-1), .int 0, .ref p3, .ref p4])) :: (x1, .inr (0, [.ref p1, .ref p5, .ref p10, .ref p11, .ref p14, .ref p17, .ref p21, .ref p22, .ref p27, .ref p28, .int 0])) :: []) rfl ?_
  refine V_astore_n (lv' := [(1, .ref x1), (0, .ref b0)]) 1 rfl (Nat.le_of_ble_eq_true rfl) rfl d_Lw_law_7 ?_
  refine V_new (fs := [.null, .null, .int 0, .null, .null, .int 0, .null, .null, .null, .int 0, .null, .null, .int 0, .null, .null, .int 0, .int 0, .null, .null, .null, .null, .null, .null, .int 0, .int 0, .int 0, .null, .null, .null, .null, .null, .null, .null, .null, .int 0, .null, .null, .null, .null, .null, .null, .null, .null, .null, .int 0]) cq_10 wc_Lw_10 wI_Mo wt_Mo (fun j hj => by rcases (show j = 0 ∨ j = 1 ∨ j = 2 ∨ j = 3 ∨ j = 4 ∨ j = 5 ∨ j = 6 ∨ j = 7 ∨ j = 8 ∨ j = 9 ∨ j = 10 ∨ j = 11 ∨ j = 12 ∨ j = 13 ∨ j = 14 ∨ j = 15 ∨ j = 16 ∨ j = 17 ∨ j = 18 ∨ j = 19 ∨ j = 20 ∨ j = 21 ∨ j = 22 ∨ j = 23 ∨ j = 24 ∨ j = 25 ∨ j = 26 ∨ j = 27 ∨ j = 28 ∨ j = 29 ∨ j = 30 ∨ j = 31 ∨ j = 32 ∨ j = 33 ∨ j = 34 ∨ j = 35 ∨ j = 36 ∨ j = 37 ∨ j = 38 ∨ j = 39 ∨ j = 40 ∨ j = 41 ∨ j = 42 ∨ j = 43 ∨ j = 44 by omega) with rfl | rfl | rfl | rfl | rfl | rfl | rfl | rfl | rfl | rfl | rfl | rfl | rfl | rfl | rfl | rfl | rfl | rfl | rfl | rfl | rfl | rfl | rfl | rfl | rfl | rfl | rfl | rfl | rfl | rfl | rfl | rfl | rfl | rfl | rfl | rfl | rfl | rfl | rfl | rfl | rfl | rfl | rfl | rfl | rfl <;> rfl) (Nat.le_of_ble_eq_true rfl) (Nat.le_of_ble_eq_true rfl) d_Lw_law_8 (fun x2 => ?_)
  refine V_dup rfl d_Lw_law_11 ?_
  refine V_callI (rest := [.ref x2]) (n_Mo_init l g _ _) ok_Mo_init rfl wi_Mo_init wk_Lw_12 ⟨⟨rfl, rfl⟩, ⟨(Nat.le_of_ble_eq_true rfl), (Nat.le_of_ble_eq_true rfl)⟩, (Nat.le_of_ble_eq_true rfl), (Nat.le_of_ble_eq_true rfl)⟩ rfl rfl (Nat.le_of_ble_eq_true rfl) d_Lw_law_12 (fun ws9 hq9 => ?_)
  obtain ⟨p37, p38, p39, p40, p41, p42, p43, p44, p45, p46, p47, p48, p49, p50, p51, p52, p53, p54, p55, p56, p57, p58, p59, p60, p61, p62, p63, p64, p65, p66, p67, p68, p69, p70, rfl⟩ := hq9
  refine V_ws (ws' := (p70, .inl (g.2.1, 60, .inl (fun _ => 0))) :: (p69, .inl (g.2.1, 240, .inl (fun _ => 0))) :: (p68, .inl (g.2.1, 4, .inl (fun _ => 0))) :: (p67, .inl (g.2.1, 4, .inl (fun _ => 0))) :: (p66, .inl (g.2.2.1, 4, .inl (fun _ => 0))) :: (p65, .inl (g.2.1, 240, .inl (fun _ => 0))) :: (p64, .inl (g.2.1, 8, .inl (fun _ => 0))) :: (p63, .inl (g.2.1, 8, .inl (fun _ => 0))) :: (p62, .inl (g.2.1, 8, .inl (fun _ => 0))) :: (p61, .inl (g.2.1, 2, .inl (fun _ => 0))) :: (p60, .inl (g.2.1, 24, .inl (fun _ => 0))) :: (p59, .inl (g.2.1, 192, .inl (fun _ => 0))) :: (p58, .inl (g.2.1, 192, .inl (fun _ => 0))) :: (p57, .inl (g.2.1, 192, .inl (fun _ => 0))) :: (p56, .inl (g.2.1, 192, .inl (fun _ => 0))) :: (p55, .inl (g.2.1, 192, .inl (fun _ => 0))) :: (p54, .inl (g.2.1, 192, .inl (fun _ => 0))) :: (p53, .inl (g.2.1, 8, .inl (fun _ => 0))) :: (p52, .inl (g.2.1, 8, .inl (fun _ => 0))) :: (p51, .inl (g.2.1, 8, .inl (fun _ => 0))) :: (p50, .inl (g.2.1, 8, .inl (fun _ => 0))) :: (p49, .inl (g.2.1, 8, .inl (fun _ => 0))) :: (p48, .inl (g.2.1, 8, .inl (fun _ => 0))) :: (p47, .inl (g.2.1, 17, .inl (fun _ => 0))) :: (p46, .inl (g.2.1, 17, .inl (fun _ => 0))) :: (p45, .inl (g.2.1, 8, .inl (fun _ => 0))) :: (p44, .inl (g.2.1, 8, .inl (fun _ => 0))) :: (p43, .inl (g.2.1, 11, .inl (fun _ => 0))) :: (p42, .inl (g.2.1, 11, .inl (fun _ => 0))) :: (p41, .inl (g.2.1, 11, .inl (fun _ => 0))) :: (p40, .inl (g.2.1, 9, .inl (fun _ => 0))) :: (p39, .inl (g.2.1, 9, .inl (fun _ => 0))) :: (p38, .inl (g.2.1, 78, .inl (fun _ => 0))) :: (p37, .inl (g.2.1, 2, .inl (fun _ => 0))) :: (x2, .inr (10, [.ref p37, .ref p38, .int 0, .ref p39, .ref p40, .int 0, .ref p41, .ref p42, .ref p43, .int 0, .ref p44, .ref p45, .int 0, .ref p46, .ref p47, .int 0, .int 0, .ref p48, .ref p49, .ref p50, .ref p51, .ref p52, .ref p53, .int 0, .int 0, .int 0, .ref p54, .ref p55, .ref p56, .ref p57, .ref p58, .ref p59, .ref p60, .ref p61, .int 0, .ref p62, .ref p63, .ref p64, .ref p65, .ref p66, .ref p67, .ref p68, .ref p69, .ref p70, .int 0])) :: (p36, .inl (g.2.1, 60, .inl (fun _ => 0))) :: (p35, .inr (7, [.ref p36, .int (-1), .int 0])) :: (p34, .inl (g.2.1, 60, .inl (fun _ => 0))) :: (p33, .inr (7, [.ref p34, .int (-1), .int 0])) :: (p32, .inl (g.2.1, 60, .inl (fun _ => 0))) :: (p31, .inr (7, [.ref p32, .int (-1), .int 0])) :: (p30, .inl (g.2.1, 60, .inl (fun _ => 0))) :: (p29, .inr (7, [.ref p30, .int (-1), .int 0])) :: (p28, .inl (g.2.2.2.2, 4, .inr (.inr (.inr (.inr (va_up (va_up (va_up (va_up (fun _ => none) (Int32.toNatClampNeg 0) (some p29)) (Int32.toNatClampNeg 1) (some p31)) (Int32.toNatClampNeg 2) (some p33)) (Int32.toNatClampNeg 3) (some p35))))))) :: (p27, .inr (5, [.ref p17, .long 0, .long 0])) :: (p26, .inl (g.2.1, 240, .inl (fun _ => 0))) :: (p25, .inl (g.2.1, 8, .inl (fun _ => 0))) :: (p24, .inl (g.2.1, 8, .inl (fun _ => 0))) :: (p23, .inl (g.2.1, 8, .inl (fun _ => 0))) :: (p22, .inr (4, [.ref p17, .ref p23, .ref p24, .ref p25, .int 0, .ref p26])) :: (p21, .inr (6, [.ref p17, .int 0, .int 0])) :: (p20, .inl (g.2.1, 24, .inl (fun _ => 0))) :: (p19, .inl (g.2.1, 192, .inl (fun _ => 0))) :: (p18, .inr (9, [.ref p19, .int 0, .int 0, .int 0, .int 0, .int 0, .int 0, .int 0, .int 0, .int 0, .int 0, .int 0, .int 0])) :: (p17, .inr (3, [.ref p1, .ref p5, .ref p11, .int 0, .ref p18, .ref p20])) :: (p16, .inl (g.2.1, 8, .inl (fun _ => 0))) :: (p15, .inl (g.2.1, 8, .inl (fun _ => 0))) :: (p14, .inr (8, [.ref p15, .ref p16, .int 0])) :: (p13, .inl (g.2.1, 8, .inl (fun _ => 0))) :: (p12, .inl (g.2.1, 8, .inl (fun _ => 0))) :: (p11, .inr (8, [.ref p12, .ref p13, .int 0])) :: (p10, .inl (g.2.2.2.1, 2, .inr (.inr (.inr (.inr (va_up (va_up (fun _ => none) (Int32.toNatClampNeg 0) (some p1)) (Int32.toNatClampNeg 1) (some p5))))))) :: (p9, .inl (g.2.1, 10, .inl (fun _ => 0))) :: (p8, .inl (g.2.1, 10, .inl (fun _ => 0))) :: (p7, .inl (g.2.1, 10, .inl (fun _ => 0))) :: (p6, .inl (g.2.1, 39, .inl (fun _ => 0))) :: (p5, .inr (1, [.ref p6, .int 4, .int 0, .int (-1), .int 0, .ref p7, .ref p8, .ref p9])) :: (p4, .inl (g.2.1, 8, .inl (fun _ => 0))) :: (p3, .inl (g.2.1, 8, .inl (fun _ => 0))) :: (p2, .inl (g.2.1, 23, .inl (fun _ => 0))) :: (p1, .inr (2, [.ref p2, .int 3, .int 0, .int (-1), .int 0, .ref p3, .ref p4])) :: (x1, .inr (0, [.ref p1, .ref p5, .ref p10, .ref p11, .ref p14, .ref p17, .ref p21, .ref p22, .ref p27, .ref p28, .int 0])) :: []) rfl ?_
  refine V_astore_n (lv' := [(2, .ref x2), (1, .ref x1), (0, .ref b0)]) 2 rfl (Nat.le_of_ble_eq_true rfl) rfl d_Lw_law_15 ?_
  refine V_kn (k' := 72) (n' := 2969) rfl rfl ?_
  obtain ⟨ad, e0, e1, e2, e3, e4, e5, e6, e7, e8, e9, e10, e11, e12, e13, e14, e15, e16, e17, e18, e19, e20, e21, e22, e23, e24, e25, e26, e27, e28, e29, e30, e31, e32, e33, e34, e35, e36, e37, e38, e39, e40, e41, e42, e43, e44, e45, e46, e47, e48, e49, e50, e51, e52, e53, e54, e55, e56, e57, e58, e59, e60, e61, e62, e63, e64, e65, e66, e67, e68, e69, e70, e71⟩ : ∃ ad : Nat → Nat, ad 0 = p70 ∧ ad 1 = p69 ∧ ad 2 = p68 ∧ ad 3 = p67 ∧ ad 4 = p66 ∧ ad 5 = p65 ∧ ad 6 = p64 ∧ ad 7 = p63 ∧ ad 8 = p62 ∧ ad 9 = p61 ∧ ad 10 = p60 ∧ ad 11 = p59 ∧ ad 12 = p58 ∧ ad 13 = p57 ∧ ad 14 = p56 ∧ ad 15 = p55 ∧ ad 16 = p54 ∧ ad 17 = p53 ∧ ad 18 = p52 ∧ ad 19 = p51 ∧ ad 20 = p50 ∧ ad 21 = p49 ∧ ad 22 = p48 ∧ ad 23 = p47 ∧ ad 24 = p46 ∧ ad 25 = p45 ∧ ad 26 = p44 ∧ ad 27 = p43 ∧ ad 28 = p42 ∧ ad 29 = p41 ∧ ad 30 = p40 ∧ ad 31 = p39 ∧ ad 32 = p38 ∧ ad 33 = p37 ∧ ad 34 = x2 ∧ ad 35 = p36 ∧ ad 36 = p35 ∧ ad 37 = p34 ∧ ad 38 = p33 ∧ ad 39 = p32 ∧ ad 40 = p31 ∧ ad 41 = p30 ∧ ad 42 = p29 ∧ ad 43 = p28 ∧ ad 44 = p27 ∧ ad 45 = p26 ∧ ad 46 = p25 ∧ ad 47 = p24 ∧ ad 48 = p23 ∧ ad 49 = p22 ∧ ad 50 = p21 ∧ ad 51 = p20 ∧ ad 52 = p19 ∧ ad 53 = p18 ∧ ad 54 = p17 ∧ ad 55 = p16 ∧ ad 56 = p15 ∧ ad 57 = p14 ∧ ad 58 = p13 ∧ ad 59 = p12 ∧ ad 60 = p11 ∧ ad 61 = p10 ∧ ad 62 = p9 ∧ ad 63 = p8 ∧ ad 64 = p7 ∧ ad 65 = p6 ∧ ad 66 = p5 ∧ ad 67 = p4 ∧ ad 68 = p3 ∧ ad 69 = p2 ∧ ad 70 = p1 ∧ ad 71 = x1 := ⟨fun a => [p70, p69, p68, p67, p66, p65, p64, p63, p62, p61, p60, p59, p58, p57, p56, p55, p54, p53, p52, p51, p50, p49, p48, p47, p46, p45, p44, p43, p42, p41, p40, p39, p38, p37, x2, p36, p35, p34, p33, p32, p31, p30, p29, p28, p27, p26, p25, p24, p23, p22, p21, p20, p19, p18, p17, p16, p15, p14, p13, p12, p11, p10, p9, p8, p7, p6, p5, p4, p3, p2, p1, x1].getD a 0, rfl, rfl, rfl, rfl, rfl, rfl, rfl, rfl, rfl, rfl, rfl, rfl, rfl, rfl, rfl, rfl, rfl, rfl, rfl, rfl, rfl, rfl, rfl, rfl, rfl, rfl, rfl, rfl, rfl, rfl, rfl, rfl, rfl, rfl, rfl, rfl, rfl, rfl, rfl, rfl, rfl, rfl, rfl, rfl, rfl, rfl, rfl, rfl, rfl, rfl, rfl, rfl, rfl, rfl, rfl, rfl, rfl, rfl, rfl, rfl, rfl, rfl, rfl, rfl, rfl, rfl, rfl, rfl, rfl, rfl, rfl, rfl⟩
  refine V_eqA (q0 := 43) (f' := fun i => some (ad (rfx 43 i))) rfl (fun i hi => by rcases (show i = 0 ∨ i = 1 ∨ i = 2 ∨ i = 3 by omega) with rfl | rfl | rfl | rfl <;> simp [va_up, rfx, rx_l, e42, e40, e38, e36]) ?_
  refine V_eqA (q0 := 61) (f' := fun i => some (ad (rfx 61 i))) rfl (fun i hi => by rcases (show i = 0 ∨ i = 1 by omega) with rfl | rfl <;> simp [va_up, rfx, rx_l, e70, e66]) ?_
  refine V_ws (ws' := [(p70, .inl (g.2.1, 60, .inl (fun _ => 0))), (p69, .inl (g.2.1, 240, .inl (fun _ => 0))), (p68, .inl (g.2.1, 4, .inl (fun _ => 0))), (p67, .inl (g.2.1, 4, .inl (fun _ => 0))), (p66, .inl (g.2.2.1, 4, .inl (fun _ => 0))), (p65, .inl (g.2.1, 240, .inl (fun _ => 0))), (p64, .inl (g.2.1, 8, .inl (fun _ => 0))), (p63, .inl (g.2.1, 8, .inl (fun _ => 0))), (p62, .inl (g.2.1, 8, .inl (fun _ => 0))), (p61, .inl (g.2.1, 2, .inl (fun _ => 0))), (p60, .inl (g.2.1, 24, .inl (fun _ => 0))), (p59, .inl (g.2.1, 192, .inl (fun _ => 0))), (p58, .inl (g.2.1, 192, .inl (fun _ => 0))), (p57, .inl (g.2.1, 192, .inl (fun _ => 0))), (p56, .inl (g.2.1, 192, .inl (fun _ => 0))), (p55, .inl (g.2.1, 192, .inl (fun _ => 0))), (p54, .inl (g.2.1, 192, .inl (fun _ => 0))), (p53, .inl (g.2.1, 8, .inl (fun _ => 0))), (p52, .inl (g.2.1, 8, .inl (fun _ => 0))), (p51, .inl (g.2.1, 8, .inl (fun _ => 0))), (p50, .inl (g.2.1, 8, .inl (fun _ => 0))), (p49, .inl (g.2.1, 8, .inl (fun _ => 0))), (p48, .inl (g.2.1, 8, .inl (fun _ => 0))), (p47, .inl (g.2.1, 17, .inl (fun _ => 0))), (p46, .inl (g.2.1, 17, .inl (fun _ => 0))), (p45, .inl (g.2.1, 8, .inl (fun _ => 0))), (p44, .inl (g.2.1, 8, .inl (fun _ => 0))), (p43, .inl (g.2.1, 11, .inl (fun _ => 0))), (p42, .inl (g.2.1, 11, .inl (fun _ => 0))), (p41, .inl (g.2.1, 11, .inl (fun _ => 0))), (p40, .inl (g.2.1, 9, .inl (fun _ => 0))), (p39, .inl (g.2.1, 9, .inl (fun _ => 0))), (p38, .inl (g.2.1, 78, .inl (fun _ => 0))), (p37, .inl (g.2.1, 2, .inl (fun _ => 0))), (x2, .inr (10, [.ref p37, .ref p38, .int 0, .ref p39, .ref p40, .int 0, .ref p41, .ref p42, .ref p43, .int 0, .ref p44, .ref p45, .int 0, .ref p46, .ref p47, .int 0, .int 0, .ref p48, .ref p49, .ref p50, .ref p51, .ref p52, .ref p53, .int 0, .int 0, .int 0, .ref p54, .ref p55, .ref p56, .ref p57, .ref p58, .ref p59, .ref p60, .ref p61, .int 0, .ref p62, .ref p63, .ref p64, .ref p65, .ref p66, .ref p67, .ref p68, .ref p69, .ref p70, .int 0])), (p36, .inl (g.2.1, 60, .inl (fun _ => 0))), (p35, .inr (7, [.ref p36, .int (-1), .int 0])), (p34, .inl (g.2.1, 60, .inl (fun _ => 0))), (p33, .inr (7, [.ref p34, .int (-1), .int 0])), (p32, .inl (g.2.1, 60, .inl (fun _ => 0))), (p31, .inr (7, [.ref p32, .int (-1), .int 0])), (p30, .inl (g.2.1, 60, .inl (fun _ => 0))), (p29, .inr (7, [.ref p30, .int (-1), .int 0])), (p28, .inl (g.2.2.2.2, 4, .inr (.inr (.inr (.inr (fun i => some (ad (rfx 43 i)))))))), (p27, .inr (5, [.ref p17, .long 0, .long 0])), (p26, .inl (g.2.1, 240, .inl (fun _ => 0))), (p25, .inl (g.2.1, 8, .inl (fun _ => 0))), (p24, .inl (g.2.1, 8, .inl (fun _ => 0))), (p23, .inl (g.2.1, 8, .inl (fun _ => 0))), (p22, .inr (4, [.ref p17, .ref p23, .ref p24, .ref p25, .int 0, .ref p26])), (p21, .inr (6, [.ref p17, .int 0, .int 0])), (p20, .inl (g.2.1, 24, .inl (fun _ => 0))), (p19, .inl (g.2.1, 192, .inl (fun _ => 0))), (p18, .inr (9, [.ref p19, .int 0, .int 0, .int 0, .int 0, .int 0, .int 0, .int 0, .int 0, .int 0, .int 0, .int 0, .int 0])), (p17, .inr (3, [.ref p1, .ref p5, .ref p11, .int 0, .ref p18, .ref p20])), (p16, .inl (g.2.1, 8, .inl (fun _ => 0))), (p15, .inl (g.2.1, 8, .inl (fun _ => 0))), (p14, .inr (8, [.ref p15, .ref p16, .int 0])), (p13, .inl (g.2.1, 8, .inl (fun _ => 0))), (p12, .inl (g.2.1, 8, .inl (fun _ => 0))), (p11, .inr (8, [.ref p12, .ref p13, .int 0])), (p10, .inl (g.2.2.2.1, 2, .inr (.inr (.inr (.inr (fun i => some (ad (rfx 61 i)))))))), (p9, .inl (g.2.1, 10, .inl (fun _ => 0))), (p8, .inl (g.2.1, 10, .inl (fun _ => 0))), (p7, .inl (g.2.1, 10, .inl (fun _ => 0))), (p6, .inl (g.2.1, 39, .inl (fun _ => 0))), (p5, .inr (1, [.ref p6, .int 4, .int 0, .int (-1), .int 0, .ref p7, .ref p8, .ref p9])), (p4, .inl (g.2.1, 8, .inl (fun _ => 0))), (p3, .inl (g.2.1, 8, .inl (fun _ => 0))), (p2, .inl (g.2.1, 23, .inl (fun _ => 0))), (p1, .inr (2, [.ref p2, .int 3, .int 0, .int (-1), .int 0, .ref p3, .ref p4])), (x1, .inr (0, [.ref p1, .ref p5, .ref p10, .ref p11, .ref p14, .ref p17, .ref p21, .ref p22, .ref p27, .ref p28, .int 0]))]) rfl ?_
  have hq := m_law l g ad Q b0 L0 xs0 hz_ (hp ad)
  rw [pic_hz] at hq
  simp only [e0, e1, e2, e3, e4, e5, e6, e7, e8, e9, e10, e11, e12, e13, e14, e15, e16, e17, e18, e19, e20, e21, e22, e23, e24, e25, e26, e27, e28, e29, e30, e31, e32, e33, e34, e35, e36, e37, e38, e39, e40, e41, e42, e43, e44, e45, e46, e47, e48, e49, e50, e51, e52, e53, e54, e55, e56, e57, e58, e59, e60, e61, e62, e63, e64, e65, e66, e67, e68, e69, e70, e71] at hq
  exact hq
