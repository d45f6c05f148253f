/-! names of the classes, their fields, the cells that the two constructors make (printed by wip/gen/names.py out of the claim) -/
def K_0 : String := "CamelStraws"
def T_0 : u_T := fun k => match k with
  | 0 => ("CamelStraws", "camels", "LCamelStraws$Camels;", true)
  | 1 => ("CamelStraws", "bales", "LCamelStraws$Bales;", true)
  | 2 => ("CamelStraws", "texts", "[LCamelStraws$Text;", true)
  | 3 => ("CamelStraws", "straws", "LCamelStraws$Straws;", true)
  | 4 => ("CamelStraws", "drawn", "LCamelStraws$Straws;", true)
  | 5 => ("CamelStraws", "caravan", "LCamelStraws$Caravan;", true)
  | 6 => ("CamelStraws", "plans", "LCamelStraws$Plans;", true)
  | 7 => ("CamelStraws", "guesses", "LCamelStraws$Guesses;", true)
  | 8 => ("CamelStraws", "odds", "LCamelStraws$Odds;", true)
  | 9 => ("CamelStraws", "sheets", "[LCamelStraws$Sheet;", true)
  | _ => ("CamelStraws", "latestFinding", "I", false)
def ft_0 : Nat → FieldType := fun k => match k with
  | 0 => .object "CamelStraws$Camels"
  | 1 => .object "CamelStraws$Bales"
  | 2 => .array (.object "CamelStraws$Text")
  | 3 => .object "CamelStraws$Straws"
  | 4 => .object "CamelStraws$Straws"
  | 5 => .object "CamelStraws$Caravan"
  | 6 => .object "CamelStraws$Plans"
  | 7 => .object "CamelStraws$Guesses"
  | 8 => .object "CamelStraws$Odds"
  | 9 => .array (.object "CamelStraws$Sheet")
  | _ => .int
def K_1 : String := "CamelStraws$Bales"
def T_1 : u_T := fun k => match k with
  | 0 => ("CamelStraws$Text", "bytes", "[I", true)
  | 1 => ("CamelStraws$Text", "period", "I", true)
  | 2 => ("CamelStraws$Text", "size", "I", false)
  | 3 => ("CamelStraws$Text", "faultPlace", "I", false)
  | 4 => ("CamelStraws$Text", "items", "I", false)
  | 5 => ("CamelStraws$Bales", "camels", "[I", true)
  | 6 => ("CamelStraws$Bales", "weights", "[I", true)
  | _ => ("CamelStraws$Bales", "days", "[I", true)
def ft_1 : Nat → FieldType := fun k => match k with
  | 0 => .array (.int)
  | 1 => .int
  | 2 => .int
  | 3 => .int
  | 4 => .int
  | 5 => .array (.int)
  | 6 => .array (.int)
  | _ => .array (.int)
def K_2 : String := "CamelStraws$Camels"
def T_2 : u_T := fun k => match k with
  | 0 => ("CamelStraws$Text", "bytes", "[I", true)
  | 1 => ("CamelStraws$Text", "period", "I", true)
  | 2 => ("CamelStraws$Text", "size", "I", false)
  | 3 => ("CamelStraws$Text", "faultPlace", "I", false)
  | 4 => ("CamelStraws$Text", "items", "I", false)
  | 5 => ("CamelStraws$Camels", "sorts", "[I", true)
  | _ => ("CamelStraws$Camels", "figures", "[I", true)
def ft_2 : Nat → FieldType := fun k => match k with
  | 0 => .array (.int)
  | 1 => .int
  | 2 => .int
  | 3 => .int
  | 4 => .int
  | 5 => .array (.int)
  | _ => .array (.int)
def K_3 : String := "CamelStraws$Caravan"
def T_3 : u_T := fun k => match k with
  | 0 => ("CamelStraws$Caravan", "camels", "LCamelStraws$Camels;", true)
  | 1 => ("CamelStraws$Caravan", "bales", "LCamelStraws$Bales;", true)
  | 2 => ("CamelStraws$Caravan", "straws", "LCamelStraws$Straws;", false)
  | 3 => ("CamelStraws$Caravan", "leftOut", "I", false)
  | 4 => ("CamelStraws$Caravan", "walk", "LCamelStraws$Walk;", true)
  | _ => ("CamelStraws$Caravan", "strengths", "[I", true)
def ft_3 : Nat → FieldType := fun k => match k with
  | 0 => .object "CamelStraws$Camels"
  | 1 => .object "CamelStraws$Bales"
  | 2 => .object "CamelStraws$Straws"
  | 3 => .int
  | 4 => .object "CamelStraws$Walk"
  | _ => .array (.int)
def K_4 : String := "CamelStraws$Guesses"
def T_4 : u_T := fun k => match k with
  | 0 => ("CamelStraws$Guesses", "caravan", "LCamelStraws$Caravan;", true)
  | 1 => ("CamelStraws$Guesses", "days", "[I", true)
  | 2 => ("CamelStraws$Guesses", "places", "[I", true)
  | 3 => ("CamelStraws$Guesses", "loads", "[I", true)
  | 4 => ("CamelStraws$Guesses", "number", "I", false)
  | _ => ("CamelStraws$Guesses", "loadsByFigure", "[I", true)
def ft_4 : Nat → FieldType := fun k => match k with
  | 0 => .object "CamelStraws$Caravan"
  | 1 => .array (.int)
  | 2 => .array (.int)
  | 3 => .array (.int)
  | 4 => .int
  | _ => .array (.int)
def K_5 : String := "CamelStraws$Odds"
def T_5 : u_T := fun k => match k with
  | 0 => ("CamelStraws$Odds", "caravan", "LCamelStraws$Caravan;", true)
  | 1 => ("CamelStraws$Odds", "above", "J", false)
  | _ => ("CamelStraws$Odds", "below", "J", false)
def ft_5 : Nat → FieldType := fun k => match k with
  | 0 => .object "CamelStraws$Caravan"
  | 1 => .long
  | _ => .long
def K_6 : String := "CamelStraws$Plans"
def T_6 : u_T := fun k => match k with
  | 0 => ("CamelStraws$Plans", "caravan", "LCamelStraws$Caravan;", true)
  | 1 => ("CamelStraws$Plans", "which", "I", false)
  | _ => ("CamelStraws$Plans", "howMuch", "I", false)
def ft_6 : Nat → FieldType := fun k => match k with
  | 0 => .object "CamelStraws$Caravan"
  | 1 => .int
  | _ => .int
def K_7 : String := "CamelStraws$Sheet"
def T_7 : u_T := fun k => match k with
  | 0 => ("CamelStraws$Sheet", "items", "[I", true)
  | 1 => ("CamelStraws$Sheet", "form", "I", false)
  | _ => ("CamelStraws$Sheet", "size", "I", false)
def ft_7 : Nat → FieldType := fun k => match k with
  | 0 => .array (.int)
  | 1 => .int
  | _ => .int
def K_8 : String := "CamelStraws$Straws"
def T_8 : u_T := fun k => match k with
  | 0 => ("CamelStraws$Straws", "days", "[I", true)
  | 1 => ("CamelStraws$Straws", "camels", "[I", true)
  | _ => ("CamelStraws$Straws", "number", "I", false)
def ft_8 : Nat → FieldType := fun k => match k with
  | 0 => .array (.int)
  | 1 => .array (.int)
  | _ => .int
def K_9 : String := "CamelStraws$Walk"
def T_9 : u_T := fun k => match k with
  | 0 => ("CamelStraws$Walk", "kept", "[I", true)
  | 1 => ("CamelStraws$Walk", "sort", "I", false)
  | 2 => ("CamelStraws$Walk", "strengthAtFirst", "I", false)
  | 3 => ("CamelStraws$Walk", "load", "I", false)
  | 4 => ("CamelStraws$Walk", "strength", "I", false)
  | 5 => ("CamelStraws$Walk", "dayOfFall", "I", false)
  | 6 => ("CamelStraws$Walk", "fees", "I", false)
  | 7 => ("CamelStraws$Walk", "brought", "I", false)
  | 8 => ("CamelStraws$Walk", "spilt", "I", false)
  | 9 => ("CamelStraws$Walk", "room", "I", false)
  | 10 => ("CamelStraws$Walk", "lies", "Z", false)
  | 11 => ("CamelStraws$Walk", "broke", "I", false)
  | _ => ("CamelStraws$Walk", "firstFall", "I", false)
def ft_9 : Nat → FieldType := fun k => match k with
  | 0 => .array (.int)
  | 1 => .int
  | 2 => .int
  | 3 => .int
  | 4 => .int
  | 5 => .int
  | 6 => .int
  | 7 => .int
  | 8 => .int
  | 9 => .int
  | 10 => .boolean
  | 11 => .int
  | _ => .int
def K_10 : String := "CamelStrawsModel"
def T_10 : u_T := fun k => match k with
  | 0 => ("CamelStrawsModel", "typed", "[I", true)
  | 1 => ("CamelStrawsModel", "texts", "[I", true)
  | 2 => ("CamelStrawsModel", "camels", "I", false)
  | 3 => ("CamelStrawsModel", "sorts", "[I", true)
  | 4 => ("CamelStrawsModel", "figures", "[I", true)
  | 5 => ("CamelStrawsModel", "bales", "I", false)
  | 6 => ("CamelStrawsModel", "baleOn", "[I", true)
  | 7 => ("CamelStrawsModel", "baleBy", "[I", true)
  | 8 => ("CamelStrawsModel", "baleDay", "[I", true)
  | 9 => ("CamelStrawsModel", "straws", "I", false)
  | 10 => ("CamelStrawsModel", "strawDay", "[I", true)
  | 11 => ("CamelStrawsModel", "strawOn", "[I", true)
  | 12 => ("CamelStrawsModel", "strawsNow", "I", false)
  | 13 => ("CamelStrawsModel", "dayNow", "[I", true)
  | 14 => ("CamelStrawsModel", "onNow", "[I", true)
  | 15 => ("CamelStrawsModel", "notStraws", "I", false)
  | 16 => ("CamelStrawsModel", "isLast", "Z", false)
  | 17 => ("CamelStrawsModel", "loads", "[I", true)
  | 18 => ("CamelStrawsModel", "strengths", "[I", true)
  | 19 => ("CamelStrawsModel", "lies", "[I", true)
  | 20 => ("CamelStrawsModel", "fees", "[I", true)
  | 21 => ("CamelStrawsModel", "brought", "[I", true)
  | 22 => ("CamelStrawsModel", "broke", "[I", true)
  | 23 => ("CamelStrawsModel", "lostNow", "I", false)
  | 24 => ("CamelStrawsModel", "firstDay", "I", false)
  | 25 => ("CamelStrawsModel", "firstWho", "I", false)
  | 26 => ("CamelStrawsModel", "loadAt", "[I", true)
  | 27 => ("CamelStrawsModel", "strengthAt", "[I", true)
  | 28 => ("CamelStrawsModel", "lieAt", "[I", true)
  | 29 => ("CamelStrawsModel", "feeAt", "[I", true)
  | 30 => ("CamelStrawsModel", "broughtAt", "[I", true)
  | 31 => ("CamelStrawsModel", "brokeAt", "[I", true)
  | 32 => ("CamelStrawsModel", "lastAt", "[I", true)
  | 33 => ("CamelStrawsModel", "planRow", "[I", true)
  | 34 => ("CamelStrawsModel", "seens", "I", false)
  | 35 => ("CamelStrawsModel", "seenDay", "[I", true)
  | 36 => ("CamelStrawsModel", "seenWho", "[I", true)
  | 37 => ("CamelStrawsModel", "seenLoad", "[I", true)
  | 38 => ("CamelStrawsModel", "loadBy", "[I", true)
  | 39 => ("CamelStrawsModel", "isThere", "[Z", true)
  | 40 => ("CamelStrawsModel", "forms", "[I", true)
  | 41 => ("CamelStrawsModel", "sizes", "[I", true)
  | 42 => ("CamelStrawsModel", "items", "[I", true)
  | 43 => ("CamelStrawsModel", "moved", "[I", true)
  | _ => ("CamelStrawsModel", "finding", "I", false)
def ft_10 : Nat → FieldType := fun k => match k with
  | 0 => .array (.int)
  | 1 => .array (.int)
  | 2 => .int
  | 3 => .array (.int)
  | 4 => .array (.int)
  | 5 => .int
  | 6 => .array (.int)
  | 7 => .array (.int)
  | 8 => .array (.int)
  | 9 => .int
  | 10 => .array (.int)
  | 11 => .array (.int)
  | 12 => .int
  | 13 => .array (.int)
  | 14 => .array (.int)
  | 15 => .int
  | 16 => .boolean
  | 17 => .array (.int)
  | 18 => .array (.int)
  | 19 => .array (.int)
  | 20 => .array (.int)
  | 21 => .array (.int)
  | 22 => .array (.int)
  | 23 => .int
  | 24 => .int
  | 25 => .int
  | 26 => .array (.int)
  | 27 => .array (.int)
  | 28 => .array (.int)
  | 29 => .array (.int)
  | 30 => .array (.int)
  | 31 => .array (.int)
  | 32 => .array (.int)
  | 33 => .array (.int)
  | 34 => .int
  | 35 => .array (.int)
  | 36 => .array (.int)
  | 37 => .array (.int)
  | 38 => .array (.int)
  | 39 => .array (.boolean)
  | 40 => .array (.int)
  | 41 => .array (.int)
  | 42 => .array (.int)
  | 43 => .array (.int)
  | _ => .int
def softW : Cond → Bool
  | .methodLinkNest _ _ _ _ => true
  | .declares _ => true
  | .castable _ _ => true
  | .arrayOver (.object _) => true
  | _ => false
def okW (w : Cond) : Bool := goodWord w || softW w
def ex_l : List Cond := [.selects "CamelStraws$Camels" ⟨"CamelStraws$Text", "parse", "()V"⟩ ⟨"CamelStraws$Text", "parse", "()V"⟩, .selects "CamelStraws$Bales" ⟨"CamelStraws$Text", "parse", "()V"⟩ ⟨"CamelStraws$Text", "parse", "()V"⟩, .selects "CamelStraws$Camels" ⟨"CamelStraws$Text", "findFault", "()I"⟩ ⟨"CamelStraws$Text", "findFault", "()I"⟩, .selects "CamelStraws$Bales" ⟨"CamelStraws$Text", "findFault", "()I"⟩ ⟨"CamelStraws$Text", "findFault", "()I"⟩]
def lw_t2 : List Cond := lw_tbl ++ ex_l
def tb_l : List Cond := lw_t2.filter okW
def cl_s : List vw_C := [(K_0, T_0, 11), (K_1, T_1, 8), (K_2, T_2, 7), (K_3, T_3, 6), (K_4, T_4, 6), (K_5, T_5, 3), (K_6, T_6, 3), (K_7, T_7, 3), (K_8, T_8, 3), (K_9, T_9, 13), (K_10, T_10, 45)]
def nc_c : Nat := 72
def kd_l : List Nat := [20, 20, 20, 20, 21, 20, 20, 20, 20, 20, 20, 20, 20, 20, 20, 20, 20, 20, 20, 20, 20, 20, 20, 20, 20, 20, 20, 20, 20, 20, 20, 20, 20, 20, 10, 20, 7, 20, 7, 20, 7, 20, 7, 23, 5, 20, 20, 20, 20, 4, 6, 20, 20, 9, 3, 20, 20, 8, 20, 20, 8, 22, 20, 20, 20, 20, 1, 20, 20, 20, 2, 0]
def ln_l : List Nat := [60, 240, 4, 4, 4, 240, 8, 8, 8, 2, 24, 192, 192, 192, 192, 192, 192, 8, 8, 8, 8, 8, 8, 17, 17, 8, 8, 11, 11, 11, 9, 9, 78, 2, 0, 60, 0, 60, 0, 60, 0, 60, 0, 4, 0, 240, 8, 8, 8, 0, 0, 24, 192, 0, 0, 8, 8, 0, 8, 8, 0, 2, 10, 10, 10, 39, 0, 8, 8, 23, 0, 0]
def fd_l : List (List (Nat × Nat)) := [[], [], [], [], [], [], [], [], [], [], [], [], [], [], [], [], [], [], [], [], [], [], [], [], [], [], [], [], [], [], [], [], [], [], [(2, 33), (2, 32), (0, 0), (2, 31), (2, 30), (0, 0), (2, 29), (2, 28), (2, 27), (0, 0), (2, 26), (2, 25), (0, 0), (2, 24), (2, 23), (0, 0), (0, 0), (2, 22), (2, 21), (2, 20), (2, 19), (2, 18), (2, 17), (0, 0), (0, 0), (0, 0), (2, 16), (2, 15), (2, 14), (2, 13), (2, 12), (2, 11), (2, 10), (2, 9), (0, 0), (2, 8), (2, 7), (2, 6), (2, 5), (2, 4), (2, 3), (2, 2), (2, 1), (2, 0), (0, 0)], [], [(2, 35), (0, 0), (0, 0)], [], [(2, 37), (0, 0), (0, 0)], [], [(2, 39), (0, 0), (0, 0)], [], [(2, 41), (0, 0), (0, 0)], [], [(2, 54), (1, 0), (1, 0)], [], [], [], [], [(2, 54), (2, 48), (2, 47), (2, 46), (0, 0), (2, 45)], [(2, 54), (0, 0), (0, 0)], [], [], [(2, 52), (0, 0), (0, 0), (0, 0), (0, 0), (0, 0), (0, 0), (0, 0), (0, 0), (0, 0), (0, 0), (0, 0), (0, 0)], [(2, 70), (2, 66), (3, 0), (0, 0), (2, 53), (2, 51)], [], [], [(2, 56), (2, 55), (0, 0)], [], [], [(2, 59), (2, 58), (0, 0)], [], [], [], [], [], [(2, 65), (0, 0), (0, 0), (0, 0), (0, 0), (2, 64), (2, 63), (2, 62)], [], [], [], [(2, 69), (0, 0), (0, 0), (0, 0), (0, 0), (2, 68), (2, 67)], [(2, 70), (2, 66), (2, 61), (2, 60), (2, 57), (2, 54), (2, 50), (2, 49), (2, 44), (2, 43), (0, 0)]]
def rx_l : List (List Nat) := [[], [], [], [], [], [], [], [], [], [], [], [], [], [], [], [], [], [], [], [], [], [], [], [], [], [], [], [], [], [], [], [], [], [], [], [], [], [], [], [], [], [], [], [42, 40, 38, 36], [], [], [], [], [], [], [], [], [], [], [], [], [], [], [], [], [], [70, 66], [], [], [], [], [], [], [], [], [], []]
def kd (a : Nat) : Nat := kd_l.getD a 99
def ln (a : Nat) : Nat := ln_l.getD a 0
def fdl (a : Nat) : List (Nat × Nat) := fd_l.getD a []
def rfx (a i : Nat) : Nat := (rx_l.getD a []).getD i 0
def cl_ok (ci : Nat) (C : String) (T : u_T) (N : Nat) (ty : Nat → FieldType) : Prop := cl_s[ci]? = some (C, T, N) ∧ (∀ w ∈ u_ws C T N, w ∈ tb_l) ∧ (∀ k, k < N → parseFieldDescriptor (T k).2.2.1 = some (ty k)) ∧ (∀ a, a < N → ∀ b, b < N → a ≠ b → (T a).2.1 ≠ (T b).2.1)
theorem in_0 : ∀ w ∈ u_ws K_0 T_0 11, w ∈ tb_l := by
  have h : u_ws K_0 T_0 11 = [377, 379, 381, 383, 385, 387, 389, 391, 393, 395, 397].filterMap (fun i => lw_t2[i]?) := by decide +kernel
  have h2 : (u_ws K_0 T_0 11).all okW = true := by decide +kernel
  intro w hw
  have h3 := List.all_eq_true.mp h2 w hw
  rw [h] at hw
  obtain ⟨j, -, hj⟩ := List.mem_filterMap.mp hw
  exact List.mem_filter.mpr ⟨List.mem_of_getElem? hj, h3⟩
theorem cq_0 : cl_ok 0 K_0 T_0 11 ft_0 := ⟨rfl, in_0, by decide +kernel, by decide +kernel⟩
theorem in_1 : ∀ w ∈ u_ws K_1 T_1 8, w ∈ tb_l := by
  have h : u_ws K_1 T_1 8 = [170, 171, 172, 173, 174, 164, 166, 168].filterMap (fun i => lw_t2[i]?) := by decide +kernel
  have h2 : (u_ws K_1 T_1 8).all okW = true := by decide +kernel
  intro w hw
  have h3 := List.all_eq_true.mp h2 w hw
  rw [h] at hw
  obtain ⟨j, -, hj⟩ := List.mem_filterMap.mp hw
  exact List.mem_filter.mpr ⟨List.mem_of_getElem? hj, h3⟩
theorem cq_1 : cl_ok 1 K_1 T_1 8 ft_1 := ⟨rfl, in_1, by decide +kernel, by decide +kernel⟩
theorem in_2 : ∀ w ∈ u_ws K_2 T_2 7, w ∈ tb_l := by
  have h : u_ws K_2 T_2 7 = [135, 137, 139, 141, 143, 131, 133].filterMap (fun i => lw_t2[i]?) := by decide +kernel
  have h2 : (u_ws K_2 T_2 7).all okW = true := by decide +kernel
  intro w hw
  have h3 := List.all_eq_true.mp h2 w hw
  rw [h] at hw
  obtain ⟨j, -, hj⟩ := List.mem_filterMap.mp hw
  exact List.mem_filter.mpr ⟨List.mem_of_getElem? hj, h3⟩
theorem cq_2 : cl_ok 2 K_2 T_2 7 ft_2 := ⟨rfl, in_2, by decide +kernel, by decide +kernel⟩
theorem in_3 : ∀ w ∈ u_ws K_3 T_3 6, w ∈ tb_l := by
  have h : u_ws K_3 T_3 6 = [271, 273, 275, 277, 279, 281].filterMap (fun i => lw_t2[i]?) := by decide +kernel
  have h2 : (u_ws K_3 T_3 6).all okW = true := by decide +kernel
  intro w hw
  have h3 := List.all_eq_true.mp h2 w hw
  rw [h] at hw
  obtain ⟨j, -, hj⟩ := List.mem_filterMap.mp hw
  exact List.mem_filter.mpr ⟨List.mem_of_getElem? hj, h3⟩
theorem cq_3 : cl_ok 3 K_3 T_3 6 ft_3 := ⟨rfl, in_3, by decide +kernel, by decide +kernel⟩
theorem in_4 : ∀ w ∈ u_ws K_4 T_4 6, w ∈ tb_l := by
  have h : u_ws K_4 T_4 6 = [315, 317, 319, 321, 323, 325].filterMap (fun i => lw_t2[i]?) := by decide +kernel
  have h2 : (u_ws K_4 T_4 6).all okW = true := by decide +kernel
  intro w hw
  have h3 := List.all_eq_true.mp h2 w hw
  rw [h] at hw
  obtain ⟨j, -, hj⟩ := List.mem_filterMap.mp hw
  exact List.mem_filter.mpr ⟨List.mem_of_getElem? hj, h3⟩
theorem cq_4 : cl_ok 4 K_4 T_4 6 ft_4 := ⟨rfl, in_4, by decide +kernel, by decide +kernel⟩
theorem in_5 : ∀ w ∈ u_ws K_5 T_5 3, w ∈ tb_l := by
  have h : u_ws K_5 T_5 3 = [339, 341, 343].filterMap (fun i => lw_t2[i]?) := by decide +kernel
  have h2 : (u_ws K_5 T_5 3).all okW = true := by decide +kernel
  intro w hw
  have h3 := List.all_eq_true.mp h2 w hw
  rw [h] at hw
  obtain ⟨j, -, hj⟩ := List.mem_filterMap.mp hw
  exact List.mem_filter.mpr ⟨List.mem_of_getElem? hj, h3⟩
theorem cq_5 : cl_ok 5 K_5 T_5 3 ft_5 := ⟨rfl, in_5, by decide +kernel, by decide +kernel⟩
theorem in_6 : ∀ w ∈ u_ws K_6 T_6 3, w ∈ tb_l := by
  have h : u_ws K_6 T_6 3 = [295, 297, 299].filterMap (fun i => lw_t2[i]?) := by decide +kernel
  have h2 : (u_ws K_6 T_6 3).all okW = true := by decide +kernel
  intro w hw
  have h3 := List.all_eq_true.mp h2 w hw
  rw [h] at hw
  obtain ⟨j, -, hj⟩ := List.mem_filterMap.mp hw
  exact List.mem_filter.mpr ⟨List.mem_of_getElem? hj, h3⟩
theorem cq_6 : cl_ok 6 K_6 T_6 3 ft_6 := ⟨rfl, in_6, by decide +kernel, by decide +kernel⟩
theorem in_7 : ∀ w ∈ u_ws K_7 T_7 3, w ∈ tb_l := by
  have h : u_ws K_7 T_7 3 = [359, 361, 363].filterMap (fun i => lw_t2[i]?) := by decide +kernel
  have h2 : (u_ws K_7 T_7 3).all okW = true := by decide +kernel
  intro w hw
  have h3 := List.all_eq_true.mp h2 w hw
  rw [h] at hw
  obtain ⟨j, -, hj⟩ := List.mem_filterMap.mp hw
  exact List.mem_filter.mpr ⟨List.mem_of_getElem? hj, h3⟩
theorem cq_7 : cl_ok 7 K_7 T_7 3 ft_7 := ⟨rfl, in_7, by decide +kernel, by decide +kernel⟩
theorem in_8 : ∀ w ∈ u_ws K_8 T_8 3, w ∈ tb_l := by
  have h : u_ws K_8 T_8 3 = [193, 195, 197].filterMap (fun i => lw_t2[i]?) := by decide +kernel
  have h2 : (u_ws K_8 T_8 3).all okW = true := by decide +kernel
  intro w hw
  have h3 := List.all_eq_true.mp h2 w hw
  rw [h] at hw
  obtain ⟨j, -, hj⟩ := List.mem_filterMap.mp hw
  exact List.mem_filter.mpr ⟨List.mem_of_getElem? hj, h3⟩
theorem cq_8 : cl_ok 8 K_8 T_8 3 ft_8 := ⟨rfl, in_8, by decide +kernel, by decide +kernel⟩
theorem in_9 : ∀ w ∈ u_ws K_9 T_9 13, w ∈ tb_l := by
  have h : u_ws K_9 T_9 13 = [229, 231, 233, 235, 237, 239, 241, 243, 245, 247, 249, 251, 253].filterMap (fun i => lw_t2[i]?) := by decide +kernel
  have h2 : (u_ws K_9 T_9 13).all okW = true := by decide +kernel
  intro w hw
  have h3 := List.all_eq_true.mp h2 w hw
  rw [h] at hw
  obtain ⟨j, -, hj⟩ := List.mem_filterMap.mp hw
  exact List.mem_filter.mpr ⟨List.mem_of_getElem? hj, h3⟩
theorem cq_9 : cl_ok 9 K_9 T_9 13 ft_9 := ⟨rfl, in_9, by decide +kernel, by decide +kernel⟩
theorem in_10 : ∀ w ∈ u_ws K_10 T_10 45, w ∈ tb_l := by
  have h : u_ws K_10 T_10 45 = [914, 916, 918, 920, 922, 924, 926, 928, 930, 932, 934, 936, 938, 940, 942, 944, 946, 948, 950, 952, 954, 956, 958, 960, 962, 964, 966, 968, 970, 972, 974, 976, 978, 980, 982, 984, 986, 988, 990, 992, 994, 996, 998, 1000, 1002].filterMap (fun i => lw_t2[i]?) := by decide +kernel
  have h2 : (u_ws K_10 T_10 45).all okW = true := by decide +kernel
  intro w hw
  have h3 := List.all_eq_true.mp h2 w hw
  rw [h] at hw
  obtain ⟨j, -, hj⟩ := List.mem_filterMap.mp hw
  exact List.mem_filter.mpr ⟨List.mem_of_getElem? hj, h3⟩
theorem cq_10 : cl_ok 10 K_10 T_10 45 ft_10 := ⟨rfl, in_10, by decide +kernel, by decide +kernel⟩
theorem tb_ok : ∀ w ∈ tb_l, okW w = true := fun w h => (List.mem_filter.mp h).2
theorem tb_in {w : Cond} (i : Nat) (h : lw_t2[i]? = some w) (hk : okW w = true) : w ∈ tb_l := List.mem_filter.mpr ⟨List.mem_of_getElem? h, hk⟩
