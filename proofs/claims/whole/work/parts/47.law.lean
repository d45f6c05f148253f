/-! the law: its pure function, its walk (printed) -/
abbrev kx_Lw_law (l : Launch) (g : GG) (b0 L0 : Nat) (xs0 : Nat → Int32) (Q : Option Value → va_W → Prop) : KX := (l, g, some (b0, L0, xs0), room_1, "CamelStrawsLaw", code, 4, false, 600000, 7302250, Q, ret)
theorem wk_Lw_13 : Cond.methodLink "CamelStrawsLaw" 13 y_CS_type ∈ tb_l := (tb_in 400 (by decide +kernel) rfl)
theorem ok_CS_type : MOk y_CS_type b_CS_type 3 (some .int) 2 := ⟨(tb_in 403 (by decide +kernel) rfl), (tb_in 69 (by decide +kernel) rfl), by decide +kernel, by decide +kernel, by decide +kernel⟩
theorem wi_CS_type : Cond.instanceMethod y_CS_type ∈ tb_l := (tb_in 401 (by decide +kernel) rfl)
theorem wl_CS_CS_type : Cond.selects "CamelStraws" y_CS_type y_CS_type ∈ tb_l := (tb_in 402 (by decide +kernel) rfl)
theorem wk_Lw_17 : Cond.methodLink "CamelStrawsLaw" 17 y_Mo_type ∈ tb_l := (tb_in 1006 (by decide +kernel) rfl)
theorem ok_Mo_type : MOk y_Mo_type b_Mo_type 3 (some .int) 2 := ⟨(tb_in 1009 (by decide +kernel) rfl), (tb_in 80 (by decide +kernel) rfl), by decide +kernel, by decide +kernel, by decide +kernel⟩
theorem wi_Mo_type : Cond.instanceMethod y_Mo_type ∈ tb_l := (tb_in 1007 (by decide +kernel) rfl)
theorem wl_Mo_Mo_type : Cond.selects "CamelStrawsModel" y_Mo_type y_Mo_type ∈ tb_l := (tb_in 1008 (by decide +kernel) rfl)
theorem wk_Lw_18 : Cond.methodLink "CamelStrawsLaw" 18 y_CS_wipe ∈ tb_l := (tb_in 443 (by decide +kernel) rfl)
theorem ok_CS_wipe : MOk y_CS_wipe b_CS_wipe 3 (some .int) 1 := ⟨(tb_in 446 (by decide +kernel) rfl), (tb_in 69 (by decide +kernel) rfl), by decide +kernel, by decide +kernel, by decide +kernel⟩
theorem wi_CS_wipe : Cond.instanceMethod y_CS_wipe ∈ tb_l := (tb_in 444 (by decide +kernel) rfl)
theorem wl_CS_CS_wipe : Cond.selects "CamelStraws" y_CS_wipe y_CS_wipe ∈ tb_l := (tb_in 445 (by decide +kernel) rfl)
theorem wk_Lw_22 : Cond.methodLink "CamelStrawsLaw" 22 y_Mo_wipe ∈ tb_l := (tb_in 1016 (by decide +kernel) rfl)
theorem ok_Mo_wipe : MOk y_Mo_wipe b_Mo_wipe 3 (some .int) 1 := ⟨(tb_in 1019 (by decide +kernel) rfl), (tb_in 80 (by decide +kernel) rfl), by decide +kernel, by decide +kernel, by decide +kernel⟩
theorem wi_Mo_wipe : Cond.instanceMethod y_Mo_wipe ∈ tb_l := (tb_in 1017 (by decide +kernel) rfl)
theorem wl_Mo_Mo_wipe : Cond.selects "CamelStrawsModel" y_Mo_wipe y_Mo_wipe ∈ tb_l := (tb_in 1018 (by decide +kernel) rfl)
theorem wk_Lw_23 : Cond.methodLink "CamelStrawsLaw" 23 y_CS_undo ∈ tb_l := (tb_in 453 (by decide +kernel) rfl)
theorem ok_CS_undo : MOk y_CS_undo b_CS_undo 3 (some .int) 1 := ⟨(tb_in 456 (by decide +kernel) rfl), (tb_in 69 (by decide +kernel) rfl), by decide +kernel, by decide +kernel, by decide +kernel⟩
theorem wi_CS_undo : Cond.instanceMethod y_CS_undo ∈ tb_l := (tb_in 454 (by decide +kernel) rfl)
theorem wl_CS_CS_undo : Cond.selects "CamelStraws" y_CS_undo y_CS_undo ∈ tb_l := (tb_in 455 (by decide +kernel) rfl)
theorem wk_Lw_26 : Cond.methodLink "CamelStrawsLaw" 26 y_Mo_undo ∈ tb_l := (tb_in 1020 (by decide +kernel) rfl)
theorem ok_Mo_undo : MOk y_Mo_undo b_Mo_undo 2 (some .int) 1 := ⟨(tb_in 1023 (by decide +kernel) rfl), (tb_in 80 (by decide +kernel) rfl), by decide +kernel, by decide +kernel, by decide +kernel⟩
theorem wi_Mo_undo : Cond.instanceMethod y_Mo_undo ∈ tb_l := (tb_in 1021 (by decide +kernel) rfl)
theorem wl_Mo_Mo_undo : Cond.selects "CamelStrawsModel" y_Mo_undo y_Mo_undo ∈ tb_l := (tb_in 1022 (by decide +kernel) rfl)
theorem wk_Lw_27 : Cond.methodLink "CamelStrawsLaw" 27 y_CS_fault ∈ tb_l := (tb_in 457 (by decide +kernel) rfl)
theorem wk_Lw_30 : Cond.methodLink "CamelStrawsLaw" 30 y_Mo_fault ∈ tb_l := (tb_in 1024 (by decide +kernel) rfl)
theorem ok_Mo_fault : MOk y_Mo_fault b_Mo_fault 2 (some .int) 1 := ⟨(tb_in 1027 (by decide +kernel) rfl), (tb_in 80 (by decide +kernel) rfl), by decide +kernel, by decide +kernel, by decide +kernel⟩
theorem wi_Mo_fault : Cond.instanceMethod y_Mo_fault ∈ tb_l := (tb_in 1025 (by decide +kernel) rfl)
theorem wl_Mo_Mo_fault : Cond.selects "CamelStrawsModel" y_Mo_fault y_Mo_fault ∈ tb_l := (tb_in 1026 (by decide +kernel) rfl)
theorem wk_Lw_31 : Cond.methodLink "CamelStrawsLaw" 31 y_CS_camel ∈ tb_l := (tb_in 461 (by decide +kernel) rfl)
theorem wk_Lw_34 : Cond.methodLink "CamelStrawsLaw" 34 y_Mo_camel ∈ tb_l := (tb_in 1048 (by decide +kernel) rfl)
theorem ok_Mo_camel : MOk y_Mo_camel b_Mo_camel 3 (some .int) 2 := ⟨(tb_in 1051 (by decide +kernel) rfl), (tb_in 80 (by decide +kernel) rfl), by decide +kernel, by decide +kernel, by decide +kernel⟩
theorem wi_Mo_camel : Cond.instanceMethod y_Mo_camel ∈ tb_l := (tb_in 1049 (by decide +kernel) rfl)
theorem wl_Mo_Mo_camel : Cond.selects "CamelStrawsModel" y_Mo_camel y_Mo_camel ∈ tb_l := (tb_in 1050 (by decide +kernel) rfl)
theorem wk_Lw_35 : Cond.methodLink "CamelStrawsLaw" 35 y_CS_bale ∈ tb_l := (tb_in 472 (by decide +kernel) rfl)
theorem wk_Lw_38 : Cond.methodLink "CamelStrawsLaw" 38 y_Mo_bale ∈ tb_l := (tb_in 1067 (by decide +kernel) rfl)
theorem ok_Mo_bale : MOk y_Mo_bale b_Mo_bale 3 (some .int) 2 := ⟨(tb_in 1070 (by decide +kernel) rfl), (tb_in 80 (by decide +kernel) rfl), by decide +kernel, by decide +kernel, by decide +kernel⟩
theorem wi_Mo_bale : Cond.instanceMethod y_Mo_bale ∈ tb_l := (tb_in 1068 (by decide +kernel) rfl)
theorem wl_Mo_Mo_bale : Cond.selects "CamelStrawsModel" y_Mo_bale y_Mo_bale ∈ tb_l := (tb_in 1069 (by decide +kernel) rfl)
theorem wk_Lw_39 : Cond.methodLink "CamelStrawsLaw" 39 y_CS_straw ∈ tb_l := (tb_in 480 (by decide +kernel) rfl)
theorem wk_Lw_42 : Cond.methodLink "CamelStrawsLaw" 42 y_Mo_straw ∈ tb_l := (tb_in 1079 (by decide +kernel) rfl)
theorem wk_Lw_43 : Cond.methodLink "CamelStrawsLaw" 43 y_CS_back ∈ tb_l := (tb_in 494 (by decide +kernel) rfl)
theorem ok_CS_back : MOk y_CS_back b_CS_back 1 (some .int) 0 := ⟨(tb_in 497 (by decide +kernel) rfl), (tb_in 69 (by decide +kernel) rfl), by decide +kernel, by decide +kernel, by decide +kernel⟩
theorem wi_CS_back : Cond.instanceMethod y_CS_back ∈ tb_l := (tb_in 495 (by decide +kernel) rfl)
theorem wl_CS_CS_back : Cond.selects "CamelStraws" y_CS_back y_CS_back ∈ tb_l := (tb_in 496 (by decide +kernel) rfl)
theorem wk_Lw_47 : Cond.methodLink "CamelStrawsLaw" 47 y_Mo_back ∈ tb_l := (tb_in 1089 (by decide +kernel) rfl)
theorem ok_Mo_back : MOk y_Mo_back b_Mo_back 1 (some .int) 0 := ⟨(tb_in 1092 (by decide +kernel) rfl), (tb_in 80 (by decide +kernel) rfl), by decide +kernel, by decide +kernel, by decide +kernel⟩
theorem wi_Mo_back : Cond.instanceMethod y_Mo_back ∈ tb_l := (tb_in 1090 (by decide +kernel) rfl)
theorem wl_Mo_Mo_back : Cond.selects "CamelStrawsModel" y_Mo_back y_Mo_back ∈ tb_l := (tb_in 1091 (by decide +kernel) rfl)
theorem wk_Lw_48 : Cond.methodLink "CamelStrawsLaw" 48 y_CS_read ∈ tb_l := (tb_in 498 (by decide +kernel) rfl)
theorem ok_CS_read : MOk y_CS_read b_CS_read 5 (some .int) 1 := ⟨(tb_in 501 (by decide +kernel) rfl), (tb_in 69 (by decide +kernel) rfl), by decide +kernel, by decide +kernel, by decide +kernel⟩
theorem wi_CS_read : Cond.instanceMethod y_CS_read ∈ tb_l := (tb_in 499 (by decide +kernel) rfl)
theorem wl_CS_CS_read : Cond.selects "CamelStraws" y_CS_read y_CS_read ∈ tb_l := (tb_in 500 (by decide +kernel) rfl)
theorem wk_Lw_51 : Cond.methodLink "CamelStrawsLaw" 51 y_Mo_read ∈ tb_l := (tb_in 1093 (by decide +kernel) rfl)
theorem ok_Mo_read : MOk y_Mo_read b_Mo_read 3 (some .int) 1 := ⟨(tb_in 1096 (by decide +kernel) rfl), (tb_in 80 (by decide +kernel) rfl), by decide +kernel, by decide +kernel, by decide +kernel⟩
theorem wi_Mo_read : Cond.instanceMethod y_Mo_read ∈ tb_l := (tb_in 1094 (by decide +kernel) rfl)
theorem wl_Mo_Mo_read : Cond.selects "CamelStrawsModel" y_Mo_read y_Mo_read ∈ tb_l := (tb_in 1095 (by decide +kernel) rfl)
theorem wk_Lw_52 : Cond.methodLink "CamelStrawsLaw" 52 y_CS_at ∈ tb_l := (tb_in 514 (by decide +kernel) rfl)
theorem wk_Lw_56 : Cond.methodLink "CamelStrawsLaw" 56 y_Mo_at ∈ tb_l := (tb_in 1105 (by decide +kernel) rfl)
theorem ok_Mo_at : MOk y_Mo_at b_Mo_at 4 (some .int) 3 := ⟨(tb_in 1108 (by decide +kernel) rfl), (tb_in 80 (by decide +kernel) rfl), by decide +kernel, by decide +kernel, by decide +kernel⟩
theorem wi_Mo_at : Cond.instanceMethod y_Mo_at ∈ tb_l := (tb_in 1106 (by decide +kernel) rfl)
theorem wl_Mo_Mo_at : Cond.selects "CamelStrawsModel" y_Mo_at y_Mo_at ∈ tb_l := (tb_in 1107 (by decide +kernel) rfl)
theorem wk_Lw_57 : Cond.methodLink "CamelStrawsLaw" 57 y_CS_through ∈ tb_l := (tb_in 567 (by decide +kernel) rfl)
theorem wk_Lw_60 : Cond.methodLink "CamelStrawsLaw" 60 y_Mo_through ∈ tb_l := (tb_in 1164 (by decide +kernel) rfl)
theorem ok_Mo_through : MOk y_Mo_through b_Mo_through 1 (some .int) 0 := ⟨(tb_in 1167 (by decide +kernel) rfl), (tb_in 80 (by decide +kernel) rfl), by decide +kernel, by decide +kernel, by decide +kernel⟩
theorem wi_Mo_through : Cond.instanceMethod y_Mo_through ∈ tb_l := (tb_in 1165 (by decide +kernel) rfl)
theorem wl_Mo_Mo_through : Cond.selects "CamelStrawsModel" y_Mo_through y_Mo_through ∈ tb_l := (tb_in 1166 (by decide +kernel) rfl)
theorem wk_Lw_61 : Cond.methodLink "CamelStrawsLaw" 61 y_CS_lost ∈ tb_l := (tb_in 577 (by decide +kernel) rfl)
theorem wk_Lw_64 : Cond.methodLink "CamelStrawsLaw" 64 y_Mo_lost ∈ tb_l := (tb_in 1176 (by decide +kernel) rfl)
theorem ok_Mo_lost : MOk y_Mo_lost b_Mo_lost 1 (some .int) 0 := ⟨(tb_in 1179 (by decide +kernel) rfl), (tb_in 80 (by decide +kernel) rfl), by decide +kernel, by decide +kernel, by decide +kernel⟩
theorem wi_Mo_lost : Cond.instanceMethod y_Mo_lost ∈ tb_l := (tb_in 1177 (by decide +kernel) rfl)
theorem wl_Mo_Mo_lost : Cond.selects "CamelStrawsModel" y_Mo_lost y_Mo_lost ∈ tb_l := (tb_in 1178 (by decide +kernel) rfl)
theorem wk_Lw_65 : Cond.methodLink "CamelStrawsLaw" 65 y_CS_first ∈ tb_l := (tb_in 581 (by decide +kernel) rfl)
theorem wk_Lw_68 : Cond.methodLink "CamelStrawsLaw" 68 y_Mo_first ∈ tb_l := (tb_in 1184 (by decide +kernel) rfl)
theorem ok_Mo_first : MOk y_Mo_first b_Mo_first 2 (some .int) 1 := ⟨(tb_in 1187 (by decide +kernel) rfl), (tb_in 80 (by decide +kernel) rfl), by decide +kernel, by decide +kernel, by decide +kernel⟩
theorem wi_Mo_first : Cond.instanceMethod y_Mo_first ∈ tb_l := (tb_in 1185 (by decide +kernel) rfl)
theorem wl_Mo_Mo_first : Cond.selects "CamelStrawsModel" y_Mo_first y_Mo_first ∈ tb_l := (tb_in 1186 (by decide +kernel) rfl)
theorem wk_Lw_69 : Cond.methodLink "CamelStrawsLaw" 69 y_CS_best ∈ tb_l := (tb_in 589 (by decide +kernel) rfl)
theorem wk_Lw_72 : Cond.methodLink "CamelStrawsLaw" 72 y_Mo_best ∈ tb_l := (tb_in 1192 (by decide +kernel) rfl)
theorem ok_Mo_best : MOk y_Mo_best b_Mo_best 1 (some .int) 0 := ⟨(tb_in 1195 (by decide +kernel) rfl), (tb_in 80 (by decide +kernel) rfl), by decide +kernel, by decide +kernel, by decide +kernel⟩
theorem wi_Mo_best : Cond.instanceMethod y_Mo_best ∈ tb_l := (tb_in 1193 (by decide +kernel) rfl)
theorem wl_Mo_Mo_best : Cond.selects "CamelStrawsModel" y_Mo_best y_Mo_best ∈ tb_l := (tb_in 1194 (by decide +kernel) rfl)
theorem wk_Lw_73 : Cond.methodLink "CamelStrawsLaw" 73 y_CS_whole ∈ tb_l := (tb_in 601 (by decide +kernel) rfl)
theorem wk_Lw_76 : Cond.methodLink "CamelStrawsLaw" 76 y_Mo_whole ∈ tb_l := (tb_in 1200 (by decide +kernel) rfl)
theorem ok_Mo_whole : MOk y_Mo_whole b_Mo_whole 1 (some .int) 0 := ⟨(tb_in 1203 (by decide +kernel) rfl), (tb_in 80 (by decide +kernel) rfl), by decide +kernel, by decide +kernel, by decide +kernel⟩
theorem wi_Mo_whole : Cond.instanceMethod y_Mo_whole ∈ tb_l := (tb_in 1201 (by decide +kernel) rfl)
theorem wl_Mo_Mo_whole : Cond.selects "CamelStrawsModel" y_Mo_whole y_Mo_whole ∈ tb_l := (tb_in 1202 (by decide +kernel) rfl)
theorem wk_Lw_77 : Cond.methodLink "CamelStrawsLaw" 77 y_CS_tired ∈ tb_l := (tb_in 609 (by decide +kernel) rfl)
theorem wk_Lw_80 : Cond.methodLink "CamelStrawsLaw" 80 y_Mo_tired ∈ tb_l := (tb_in 1208 (by decide +kernel) rfl)
theorem ok_Mo_tired : MOk y_Mo_tired b_Mo_tired 1 (some .int) 0 := ⟨(tb_in 1211 (by decide +kernel) rfl), (tb_in 80 (by decide +kernel) rfl), by decide +kernel, by decide +kernel, by decide +kernel⟩
theorem wi_Mo_tired : Cond.instanceMethod y_Mo_tired ∈ tb_l := (tb_in 1209 (by decide +kernel) rfl)
theorem wl_Mo_Mo_tired : Cond.selects "CamelStrawsModel" y_Mo_tired y_Mo_tired ∈ tb_l := (tb_in 1210 (by decide +kernel) rfl)
theorem wk_Lw_81 : Cond.methodLink "CamelStrawsLaw" 81 y_CS_last ∈ tb_l := (tb_in 620 (by decide +kernel) rfl)
theorem wk_Lw_84 : Cond.methodLink "CamelStrawsLaw" 84 y_Mo_last ∈ tb_l := (tb_in 1220 (by decide +kernel) rfl)
theorem ok_Mo_last : MOk y_Mo_last b_Mo_last 3 (some .int) 2 := ⟨(tb_in 1223 (by decide +kernel) rfl), (tb_in 80 (by decide +kernel) rfl), by decide +kernel, by decide +kernel, by decide +kernel⟩
theorem wi_Mo_last : Cond.instanceMethod y_Mo_last ∈ tb_l := (tb_in 1221 (by decide +kernel) rfl)
theorem wl_Mo_Mo_last : Cond.selects "CamelStrawsModel" y_Mo_last y_Mo_last ∈ tb_l := (tb_in 1222 (by decide +kernel) rfl)
theorem wk_Lw_85 : Cond.methodLink "CamelStrawsLaw" 85 y_CS_bear ∈ tb_l := (tb_in 624 (by decide +kernel) rfl)
theorem wk_Lw_88 : Cond.methodLink "CamelStrawsLaw" 88 y_Mo_bear ∈ tb_l := (tb_in 1228 (by decide +kernel) rfl)
theorem ok_Mo_bear : MOk y_Mo_bear b_Mo_bear 3 (some .int) 2 := ⟨(tb_in 1231 (by decide +kernel) rfl), (tb_in 80 (by decide +kernel) rfl), by decide +kernel, by decide +kernel, by decide +kernel⟩
theorem wi_Mo_bear : Cond.instanceMethod y_Mo_bear ∈ tb_l := (tb_in 1229 (by decide +kernel) rfl)
theorem wl_Mo_Mo_bear : Cond.selects "CamelStrawsModel" y_Mo_bear y_Mo_bear ∈ tb_l := (tb_in 1230 (by decide +kernel) rfl)
theorem wk_Lw_89 : Cond.methodLink "CamelStrawsLaw" 89 y_CS_when ∈ tb_l := (tb_in 642 (by decide +kernel) rfl)
theorem wk_Lw_92 : Cond.methodLink "CamelStrawsLaw" 92 y_Mo_when ∈ tb_l := (tb_in 1236 (by decide +kernel) rfl)
theorem ok_Mo_when : MOk y_Mo_when b_Mo_when 3 (some .int) 2 := ⟨(tb_in 1239 (by decide +kernel) rfl), (tb_in 80 (by decide +kernel) rfl), by decide +kernel, by decide +kernel, by decide +kernel⟩
theorem wi_Mo_when : Cond.instanceMethod y_Mo_when ∈ tb_l := (tb_in 1237 (by decide +kernel) rfl)
theorem wl_Mo_Mo_when : Cond.selects "CamelStrawsModel" y_Mo_when y_Mo_when ∈ tb_l := (tb_in 1238 (by decide +kernel) rfl)
theorem wk_Lw_93 : Cond.methodLink "CamelStrawsLaw" 93 y_CS_spare ∈ tb_l := (tb_in 650 (by decide +kernel) rfl)
theorem wk_Lw_96 : Cond.methodLink "CamelStrawsLaw" 96 y_Mo_spare ∈ tb_l := (tb_in 1244 (by decide +kernel) rfl)
theorem ok_Mo_spare : MOk y_Mo_spare b_Mo_spare 2 (some .int) 1 := ⟨(tb_in 1247 (by decide +kernel) rfl), (tb_in 80 (by decide +kernel) rfl), by decide +kernel, by decide +kernel, by decide +kernel⟩
theorem wi_Mo_spare : Cond.instanceMethod y_Mo_spare ∈ tb_l := (tb_in 1245 (by decide +kernel) rfl)
theorem wl_Mo_Mo_spare : Cond.selects "CamelStrawsModel" y_Mo_spare y_Mo_spare ∈ tb_l := (tb_in 1246 (by decide +kernel) rfl)
theorem wk_Lw_97 : Cond.methodLink "CamelStrawsLaw" 97 y_CS_seen ∈ tb_l := (tb_in 673 (by decide +kernel) rfl)
theorem ok_CS_seen : MOk y_CS_seen b_CS_seen 4 (some .int) 3 := ⟨(tb_in 676 (by decide +kernel) rfl), (tb_in 69 (by decide +kernel) rfl), by decide +kernel, by decide +kernel, by decide +kernel⟩
theorem wi_CS_seen : Cond.instanceMethod y_CS_seen ∈ tb_l := (tb_in 674 (by decide +kernel) rfl)
theorem wl_CS_CS_seen : Cond.selects "CamelStraws" y_CS_seen y_CS_seen ∈ tb_l := (tb_in 675 (by decide +kernel) rfl)
theorem wk_Lw_100 : Cond.methodLink "CamelStrawsLaw" 100 y_Mo_seen ∈ tb_l := (tb_in 1264 (by decide +kernel) rfl)
theorem ok_Mo_seen : MOk y_Mo_seen b_Mo_seen 4 (some .int) 3 := ⟨(tb_in 1267 (by decide +kernel) rfl), (tb_in 80 (by decide +kernel) rfl), by decide +kernel, by decide +kernel, by decide +kernel⟩
theorem wi_Mo_seen : Cond.instanceMethod y_Mo_seen ∈ tb_l := (tb_in 1265 (by decide +kernel) rfl)
theorem wl_Mo_Mo_seen : Cond.selects "CamelStrawsModel" y_Mo_seen y_Mo_seen ∈ tb_l := (tb_in 1266 (by decide +kernel) rfl)
theorem wk_Lw_101 : Cond.methodLink "CamelStrawsLaw" 101 y_CS_forget ∈ tb_l := (tb_in 681 (by decide +kernel) rfl)
theorem ok_CS_forget : MOk y_CS_forget b_CS_forget 2 (some .int) 0 := ⟨(tb_in 684 (by decide +kernel) rfl), (tb_in 69 (by decide +kernel) rfl), by decide +kernel, by decide +kernel, by decide +kernel⟩
theorem wi_CS_forget : Cond.instanceMethod y_CS_forget ∈ tb_l := (tb_in 682 (by decide +kernel) rfl)
theorem wl_CS_CS_forget : Cond.selects "CamelStraws" y_CS_forget y_CS_forget ∈ tb_l := (tb_in 683 (by decide +kernel) rfl)
theorem wk_Lw_104 : Cond.methodLink "CamelStrawsLaw" 104 y_Mo_forget ∈ tb_l := (tb_in 1268 (by decide +kernel) rfl)
theorem ok_Mo_forget : MOk y_Mo_forget b_Mo_forget 2 (some .int) 0 := ⟨(tb_in 1271 (by decide +kernel) rfl), (tb_in 80 (by decide +kernel) rfl), by decide +kernel, by decide +kernel, by decide +kernel⟩
theorem wi_Mo_forget : Cond.instanceMethod y_Mo_forget ∈ tb_l := (tb_in 1269 (by decide +kernel) rfl)
theorem wl_Mo_Mo_forget : Cond.selects "CamelStrawsModel" y_Mo_forget y_Mo_forget ∈ tb_l := (tb_in 1270 (by decide +kernel) rfl)
theorem wk_Lw_105 : Cond.methodLink "CamelStrawsLaw" 105 y_CS_never ∈ tb_l := (tb_in 685 (by decide +kernel) rfl)
theorem wk_Lw_108 : Cond.methodLink "CamelStrawsLaw" 108 y_Mo_never ∈ tb_l := (tb_in 1272 (by decide +kernel) rfl)
theorem ok_Mo_never : MOk y_Mo_never b_Mo_never 1 (some .int) 0 := ⟨(tb_in 1275 (by decide +kernel) rfl), (tb_in 80 (by decide +kernel) rfl), by decide +kernel, by decide +kernel, by decide +kernel⟩
theorem wi_Mo_never : Cond.instanceMethod y_Mo_never ∈ tb_l := (tb_in 1273 (by decide +kernel) rfl)
theorem wl_Mo_Mo_never : Cond.selects "CamelStrawsModel" y_Mo_never y_Mo_never ∈ tb_l := (tb_in 1274 (by decide +kernel) rfl)
theorem wk_Lw_109 : Cond.methodLink "CamelStrawsLaw" 109 y_CS_was ∈ tb_l := (tb_in 699 (by decide +kernel) rfl)
theorem wk_Lw_112 : Cond.methodLink "CamelStrawsLaw" 112 y_Mo_was ∈ tb_l := (tb_in 1284 (by decide +kernel) rfl)
theorem ok_Mo_was : MOk y_Mo_was b_Mo_was 3 (some .int) 2 := ⟨(tb_in 1287 (by decide +kernel) rfl), (tb_in 80 (by decide +kernel) rfl), by decide +kernel, by decide +kernel, by decide +kernel⟩
theorem wi_Mo_was : Cond.instanceMethod y_Mo_was ∈ tb_l := (tb_in 1285 (by decide +kernel) rfl)
theorem wl_Mo_Mo_was : Cond.selects "CamelStrawsModel" y_Mo_was y_Mo_was ∈ tb_l := (tb_in 1286 (by decide +kernel) rfl)
theorem wk_Lw_113 : Cond.methodLink "CamelStrawsLaw" 113 y_CS_ask ∈ tb_l := (tb_in 707 (by decide +kernel) rfl)
theorem wk_Lw_116 : Cond.methodLink "CamelStrawsLaw" 116 y_Mo_ask ∈ tb_l := (tb_in 1296 (by decide +kernel) rfl)
theorem ok_Mo_ask : MOk y_Mo_ask b_Mo_ask 2 (some .int) 1 := ⟨(tb_in 1299 (by decide +kernel) rfl), (tb_in 80 (by decide +kernel) rfl), by decide +kernel, by decide +kernel, by decide +kernel⟩
theorem wi_Mo_ask : Cond.instanceMethod y_Mo_ask ∈ tb_l := (tb_in 1297 (by decide +kernel) rfl)
theorem wl_Mo_Mo_ask : Cond.selects "CamelStrawsModel" y_Mo_ask y_Mo_ask ∈ tb_l := (tb_in 1298 (by decide +kernel) rfl)
theorem wk_Lw_117 : Cond.methodLink "CamelStrawsLaw" 117 y_CS_chance ∈ tb_l := (tb_in 726 (by decide +kernel) rfl)
theorem wk_Lw_121 : Cond.methodLink "CamelStrawsLaw" 121 y_Mo_chance ∈ tb_l := (tb_in 1304 (by decide +kernel) rfl)
theorem ok_Mo_chance : MOk y_Mo_chance b_Mo_chance 4 (some .long) 3 := ⟨(tb_in 1307 (by decide +kernel) rfl), (tb_in 80 (by decide +kernel) rfl), by decide +kernel, by decide +kernel, by decide +kernel⟩
theorem wi_Mo_chance : Cond.instanceMethod y_Mo_chance ∈ tb_l := (tb_in 1305 (by decide +kernel) rfl)
theorem wl_Mo_Mo_chance : Cond.selects "CamelStrawsModel" y_Mo_chance y_Mo_chance ∈ tb_l := (tb_in 1306 (by decide +kernel) rfl)
theorem wk_Lw_122 : Cond.methodLink "CamelStrawsLaw" 122 y_CS_years ∈ tb_l := (tb_in 753 (by decide +kernel) rfl)
theorem wk_Lw_125 : Cond.methodLink "CamelStrawsLaw" 125 y_Mo_years ∈ tb_l := (tb_in 1319 (by decide +kernel) rfl)
theorem ok_Mo_years : MOk y_Mo_years b_Mo_years 4 (some .int) 3 := ⟨(tb_in 1322 (by decide +kernel) rfl), (tb_in 80 (by decide +kernel) rfl), by decide +kernel, by decide +kernel, by decide +kernel⟩
theorem wi_Mo_years : Cond.instanceMethod y_Mo_years ∈ tb_l := (tb_in 1320 (by decide +kernel) rfl)
theorem wl_Mo_Mo_years : Cond.selects "CamelStrawsModel" y_Mo_years y_Mo_years ∈ tb_l := (tb_in 1321 (by decide +kernel) rfl)
theorem wk_Lw_126 : Cond.methodLink "CamelStrawsLaw" 126 y_CS_sheet ∈ tb_l := (tb_in 766 (by decide +kernel) rfl)
theorem ok_CS_sheet : MOk y_CS_sheet b_CS_sheet 4 (some .int) 3 := ⟨(tb_in 769 (by decide +kernel) rfl), (tb_in 69 (by decide +kernel) rfl), by decide +kernel, by decide +kernel, by decide +kernel⟩
theorem wi_CS_sheet : Cond.instanceMethod y_CS_sheet ∈ tb_l := (tb_in 767 (by decide +kernel) rfl)
theorem wl_CS_CS_sheet : Cond.selects "CamelStraws" y_CS_sheet y_CS_sheet ∈ tb_l := (tb_in 768 (by decide +kernel) rfl)
theorem wk_Lw_129 : Cond.methodLink "CamelStrawsLaw" 129 y_Mo_sheet ∈ tb_l := (tb_in 1328 (by decide +kernel) rfl)
theorem ok_Mo_sheet : MOk y_Mo_sheet b_Mo_sheet 5 (some .int) 3 := ⟨(tb_in 1331 (by decide +kernel) rfl), (tb_in 80 (by decide +kernel) rfl), by decide +kernel, by decide +kernel, by decide +kernel⟩
theorem wi_Mo_sheet : Cond.instanceMethod y_Mo_sheet ∈ tb_l := (tb_in 1329 (by decide +kernel) rfl)
theorem wl_Mo_Mo_sheet : Cond.selects "CamelStrawsModel" y_Mo_sheet y_Mo_sheet ∈ tb_l := (tb_in 1330 (by decide +kernel) rfl)
theorem wk_Lw_130 : Cond.methodLink "CamelStrawsLaw" 130 y_CS_lose ∈ tb_l := (tb_in 778 (by decide +kernel) rfl)
theorem ok_CS_lose : MOk y_CS_lose b_CS_lose 3 (some .int) 1 := ⟨(tb_in 781 (by decide +kernel) rfl), (tb_in 69 (by decide +kernel) rfl), by decide +kernel, by decide +kernel, by decide +kernel⟩
theorem wi_CS_lose : Cond.instanceMethod y_CS_lose ∈ tb_l := (tb_in 779 (by decide +kernel) rfl)
theorem wl_CS_CS_lose : Cond.selects "CamelStraws" y_CS_lose y_CS_lose ∈ tb_l := (tb_in 780 (by decide +kernel) rfl)
theorem wk_Lw_133 : Cond.methodLink "CamelStrawsLaw" 133 y_Mo_lose ∈ tb_l := (tb_in 1332 (by decide +kernel) rfl)
theorem ok_Mo_lose : MOk y_Mo_lose b_Mo_lose 2 (some .int) 1 := ⟨(tb_in 1335 (by decide +kernel) rfl), (tb_in 80 (by decide +kernel) rfl), by decide +kernel, by decide +kernel, by decide +kernel⟩
theorem wi_Mo_lose : Cond.instanceMethod y_Mo_lose ∈ tb_l := (tb_in 1333 (by decide +kernel) rfl)
theorem wl_Mo_Mo_lose : Cond.selects "CamelStrawsModel" y_Mo_lose y_Mo_lose ∈ tb_l := (tb_in 1334 (by decide +kernel) rfl)
theorem wk_Lw_134 : Cond.methodLink "CamelStrawsLaw" 134 y_CS_put ∈ tb_l := (tb_in 782 (by decide +kernel) rfl)
theorem ok_CS_put : MOk y_CS_put b_CS_put 6 (some .int) 4 := ⟨(tb_in 785 (by decide +kernel) rfl), (tb_in 69 (by decide +kernel) rfl), by decide +kernel, by decide +kernel, by decide +kernel⟩
theorem wi_CS_put : Cond.instanceMethod y_CS_put ∈ tb_l := (tb_in 783 (by decide +kernel) rfl)
theorem wl_CS_CS_put : Cond.selects "CamelStraws" y_CS_put y_CS_put ∈ tb_l := (tb_in 784 (by decide +kernel) rfl)
theorem wk_Lw_138 : Cond.methodLink "CamelStrawsLaw" 138 y_Mo_put ∈ tb_l := (tb_in 1336 (by decide +kernel) rfl)
theorem ok_Mo_put : MOk y_Mo_put b_Mo_put 6 (some .int) 4 := ⟨(tb_in 1339 (by decide +kernel) rfl), (tb_in 80 (by decide +kernel) rfl), by decide +kernel, by decide +kernel, by decide +kernel⟩
theorem wi_Mo_put : Cond.instanceMethod y_Mo_put ∈ tb_l := (tb_in 1337 (by decide +kernel) rfl)
theorem wl_Mo_Mo_put : Cond.selects "CamelStrawsModel" y_Mo_put y_Mo_put ∈ tb_l := (tb_in 1338 (by decide +kernel) rfl)
theorem wk_Lw_139 : Cond.methodLink "CamelStrawsLaw" 139 y_CS_get ∈ tb_l := (tb_in 798 (by decide +kernel) rfl)
theorem ok_CS_get : MOk y_CS_get b_CS_get 5 (some .int) 3 := ⟨(tb_in 801 (by decide +kernel) rfl), (tb_in 69 (by decide +kernel) rfl), by decide +kernel, by decide +kernel, by decide +kernel⟩
theorem wi_CS_get : Cond.instanceMethod y_CS_get ∈ tb_l := (tb_in 799 (by decide +kernel) rfl)
theorem wl_CS_CS_get : Cond.selects "CamelStraws" y_CS_get y_CS_get ∈ tb_l := (tb_in 800 (by decide +kernel) rfl)
theorem wk_Lw_142 : Cond.methodLink "CamelStrawsLaw" 142 y_Mo_get ∈ tb_l := (tb_in 1348 (by decide +kernel) rfl)
theorem ok_Mo_get : MOk y_Mo_get b_Mo_get 5 (some .int) 3 := ⟨(tb_in 1351 (by decide +kernel) rfl), (tb_in 80 (by decide +kernel) rfl), by decide +kernel, by decide +kernel, by decide +kernel⟩
theorem wi_Mo_get : Cond.instanceMethod y_Mo_get ∈ tb_l := (tb_in 1349 (by decide +kernel) rfl)
theorem wl_Mo_Mo_get : Cond.selects "CamelStrawsModel" y_Mo_get y_Mo_get ∈ tb_l := (tb_in 1350 (by decide +kernel) rfl)
theorem wk_Lw_143 : Cond.methodLink "CamelStrawsLaw" 143 y_CS_copy ∈ tb_l := (tb_in 803 (by decide +kernel) rfl)
theorem ok_CS_copy : MOk y_CS_copy b_CS_copy 8 (some .int) 5 := ⟨(tb_in 806 (by decide +kernel) rfl), (tb_in 69 (by decide +kernel) rfl), by decide +kernel, by decide +kernel, by decide +kernel⟩
theorem wi_CS_copy : Cond.instanceMethod y_CS_copy ∈ tb_l := (tb_in 804 (by decide +kernel) rfl)
theorem wl_CS_CS_copy : Cond.selects "CamelStraws" y_CS_copy y_CS_copy ∈ tb_l := (tb_in 805 (by decide +kernel) rfl)
theorem wk_Lw_147 : Cond.methodLink "CamelStrawsLaw" 147 y_Mo_copy ∈ tb_l := (tb_in 1353 (by decide +kernel) rfl)
theorem ok_Mo_copy : MOk y_Mo_copy b_Mo_copy 7 (some .int) 5 := ⟨(tb_in 1356 (by decide +kernel) rfl), (tb_in 80 (by decide +kernel) rfl), by decide +kernel, by decide +kernel, by decide +kernel⟩
theorem wi_Mo_copy : Cond.instanceMethod y_Mo_copy ∈ tb_l := (tb_in 1354 (by decide +kernel) rfl)
theorem wl_Mo_Mo_copy : Cond.selects "CamelStrawsModel" y_Mo_copy y_Mo_copy ∈ tb_l := (tb_in 1355 (by decide +kernel) rfl)
theorem wk_Lw_148 : Cond.methodLink "CamelStrawsLaw" 148 y_CS_write ∈ tb_l := (tb_in 811 (by decide +kernel) rfl)
theorem ok_CS_write : MOk y_CS_write b_CS_write 7 (some .int) 2 := ⟨(tb_in 814 (by decide +kernel) rfl), (tb_in 69 (by decide +kernel) rfl), by decide +kernel, by decide +kernel, by decide +kernel⟩
theorem wi_CS_write : Cond.instanceMethod y_CS_write ∈ tb_l := (tb_in 812 (by decide +kernel) rfl)
theorem wl_CS_CS_write : Cond.selects "CamelStraws" y_CS_write y_CS_write ∈ tb_l := (tb_in 813 (by decide +kernel) rfl)
theorem wk_Lw_151 : Cond.methodLink "CamelStrawsLaw" 151 y_Mo_write ∈ tb_l := (tb_in 1357 (by decide +kernel) rfl)
theorem ok_Mo_write : MOk y_Mo_write b_Mo_write 4 (some .int) 2 := ⟨(tb_in 1360 (by decide +kernel) rfl), (tb_in 80 (by decide +kernel) rfl), by decide +kernel, by decide +kernel, by decide +kernel⟩
theorem wi_Mo_write : Cond.instanceMethod y_Mo_write ∈ tb_l := (tb_in 1358 (by decide +kernel) rfl)
theorem wl_Mo_Mo_write : Cond.selects "CamelStrawsModel" y_Mo_write y_Mo_write ∈ tb_l := (tb_in 1359 (by decide +kernel) rfl)
theorem wk_Lw_152 : Cond.methodLink "CamelStrawsLaw" 152 y_CS_count ∈ tb_l := (tb_in 818 (by decide +kernel) rfl)
theorem wk_Lw_155 : Cond.methodLink "CamelStrawsLaw" 155 y_Mo_count ∈ tb_l := (tb_in 1361 (by decide +kernel) rfl)
theorem wk_Lw_156 : Cond.methodLink "CamelStrawsLaw" 156 y_CS_digest ∈ tb_l := (tb_in 822 (by decide +kernel) rfl)
theorem ok_CS_digest : MOk y_CS_digest b_CS_digest 4 (some .long) 0 := ⟨(tb_in 825 (by decide +kernel) rfl), (tb_in 69 (by decide +kernel) rfl), by decide +kernel, by decide +kernel, by decide +kernel⟩
theorem wi_CS_digest : Cond.instanceMethod y_CS_digest ∈ tb_l := (tb_in 823 (by decide +kernel) rfl)
theorem wl_CS_CS_digest : Cond.selects "CamelStraws" y_CS_digest y_CS_digest ∈ tb_l := (tb_in 824 (by decide +kernel) rfl)
theorem wk_Lw_160 : Cond.methodLink "CamelStrawsLaw" 160 y_Mo_digest ∈ tb_l := (tb_in 1373 (by decide +kernel) rfl)
theorem ok_Mo_digest : MOk y_Mo_digest b_Mo_digest 4 (some .long) 0 := ⟨(tb_in 1376 (by decide +kernel) rfl), (tb_in 80 (by decide +kernel) rfl), by decide +kernel, by decide +kernel, by decide +kernel⟩
theorem wi_Mo_digest : Cond.instanceMethod y_Mo_digest ∈ tb_l := (tb_in 1374 (by decide +kernel) rfl)
theorem wl_Mo_Mo_digest : Cond.selects "CamelStrawsModel" y_Mo_digest y_Mo_digest ∈ tb_l := (tb_in 1375 (by decide +kernel) rfl)
def lp_Lw_law_18 (L0 : Nat) (xs0 : Nat → Int32) : Nat → Int32 → HP → Option (Int32 × HP)
 | 0, _, _ => none
 | fu + 1, v1, h2 =>
 (if (Int32.ofNat L0) - 6 < v1 then
 some (1, h2)
 else
 ckk (inb v1 L0) (ltt (xs0 (Int32.toNatClampNeg v1)) (fun (v4 : Int32) =>
 ltt (v4 &&& 63) (fun (v5 : Int32) =>
 (if v5 = 0 then
 ckk (inb (v1 + 1) L0) (ltt (xs0 (Int32.toNatClampNeg (v1 + 1))) (fun (v7 : Int32) =>
 ckk (inb (v1 + 2) L0) (ltt (xs0 (Int32.toNatClampNeg (v1 + 2))) (fun (v8 : Int32) =>
 bd2 (f_CS_type v7 v8 h2) (fun (v9 : Int32) (h10 : HP) =>
 ckk (inb (v1 + 1) L0) (ltt (xs0 (Int32.toNatClampNeg (v1 + 1))) (fun (v11 : Int32) =>
 ckk (inb (v1 + 2) L0) (ltt (xs0 (Int32.toNatClampNeg (v1 + 2))) (fun (v12 : Int32) =>
 bd2 (f_Mo_type v11 v12 h10) (fun (v13 : Int32) (h14 : HP) =>
 (if v9 = v13 then
 ltt (v1 + 6) (fun (v16 : Int32) =>
 lp_Lw_law_18 L0 xs0 fu v16 h14)
 else
 some (0, h14))))))))))))
 else
 (if v5 = 1 then
 ckk (inb (v1 + 1) L0) (ltt (xs0 (Int32.toNatClampNeg (v1 + 1))) (fun (v18 : Int32) =>
 bd2 (f_CS_wipe v18 h2) (fun (v19 : Int32) (h20 : HP) =>
 ckk (inb (v1 + 1) L0) (ltt (xs0 (Int32.toNatClampNeg (v1 + 1))) (fun (v21 : Int32) =>
 bd2 (f_Mo_wipe v21 h20) (fun (v22 : Int32) (h23 : HP) =>
 (if v19 = v22 then
 ltt (v1 + 6) (fun (v25 : Int32) =>
 lp_Lw_law_18 L0 xs0 fu v25 h23)
 else
 some (0, h23))))))))
 else
 (if v5 = 2 then
 ckk (inb (v1 + 1) L0) (ltt (xs0 (Int32.toNatClampNeg (v1 + 1))) (fun (v27 : Int32) =>
 bd2 (f_CS_undo v27 h2) (fun (v28 : Int32) (h29 : HP) =>
 ckk (inb (v1 + 1) L0) (ltt (xs0 (Int32.toNatClampNeg (v1 + 1))) (fun (v30 : Int32) =>
 bd2 (f_Mo_undo v30 h29) (fun (v31 : Int32) (h32 : HP) =>
 (if v28 = v31 then
 ltt (v1 + 6) (fun (v34 : Int32) =>
 lp_Lw_law_18 L0 xs0 fu v34 h32)
 else
 some (0, h32))))))))
 else
 (if v5 = 3 then
 ckk (inb (v1 + 1) L0) (ltt (xs0 (Int32.toNatClampNeg (v1 + 1))) (fun (v36 : Int32) =>
 bd2 (f_CS_fault v36 h2) (fun (v37 : Int32) (h38 : HP) =>
 ckk (inb (v1 + 1) L0) (ltt (xs0 (Int32.toNatClampNeg (v1 + 1))) (fun (v39 : Int32) =>
 bd2 (f_Mo_fault v39 h38) (fun (v40 : Int32) (h41 : HP) =>
 (if v37 = v40 then
 ltt (v1 + 6) (fun (v43 : Int32) =>
 lp_Lw_law_18 L0 xs0 fu v43 h41)
 else
 some (0, h41))))))))
 else
 (if v5 = 4 then
 ckk (inb (v1 + 1) L0) (ltt (xs0 (Int32.toNatClampNeg (v1 + 1))) (fun (v45 : Int32) =>
 ckk (inb (v1 + 2) L0) (ltt (xs0 (Int32.toNatClampNeg (v1 + 2))) (fun (v46 : Int32) =>
 bd2 (f_CS_camel v45 v46 h2) (fun (v47 : Int32) (h48 : HP) =>
 ckk (inb (v1 + 1) L0) (ltt (xs0 (Int32.toNatClampNeg (v1 + 1))) (fun (v49 : Int32) =>
 ckk (inb (v1 + 2) L0) (ltt (xs0 (Int32.toNatClampNeg (v1 + 2))) (fun (v50 : Int32) =>
 bd2 (f_Mo_camel v49 v50 h48) (fun (v51 : Int32) (h52 : HP) =>
 (if v47 = v51 then
 ltt (v1 + 6) (fun (v54 : Int32) =>
 lp_Lw_law_18 L0 xs0 fu v54 h52)
 else
 some (0, h52))))))))))))
 else
 (if v5 = 5 then
 ckk (inb (v1 + 1) L0) (ltt (xs0 (Int32.toNatClampNeg (v1 + 1))) (fun (v56 : Int32) =>
 ckk (inb (v1 + 2) L0) (ltt (xs0 (Int32.toNatClampNeg (v1 + 2))) (fun (v57 : Int32) =>
 bd2 (f_CS_bale v56 v57 h2) (fun (v58 : Int32) (h59 : HP) =>
 ckk (inb (v1 + 1) L0) (ltt (xs0 (Int32.toNatClampNeg (v1 + 1))) (fun (v60 : Int32) =>
 ckk (inb (v1 + 2) L0) (ltt (xs0 (Int32.toNatClampNeg (v1 + 2))) (fun (v61 : Int32) =>
 bd2 (f_Mo_bale v60 v61 h59) (fun (v62 : Int32) (h63 : HP) =>
 (if v58 = v62 then
 ltt (v1 + 6) (fun (v65 : Int32) =>
 lp_Lw_law_18 L0 xs0 fu v65 h63)
 else
 some (0, h63))))))))))))
 else
 (if v5 = 6 then
 ckk (inb (v1 + 1) L0) (ltt (xs0 (Int32.toNatClampNeg (v1 + 1))) (fun (v67 : Int32) =>
 ckk (inb (v1 + 2) L0) (ltt (xs0 (Int32.toNatClampNeg (v1 + 2))) (fun (v68 : Int32) =>
 bd2 (f_CS_straw v67 v68 h2) (fun (v69 : Int32) (h70 : HP) =>
 ckk (inb (v1 + 1) L0) (ltt (xs0 (Int32.toNatClampNeg (v1 + 1))) (fun (v71 : Int32) =>
 ckk (inb (v1 + 2) L0) (ltt (xs0 (Int32.toNatClampNeg (v1 + 2))) (fun (v72 : Int32) =>
 bd2 (f_Mo_straw v71 v72 h70) (fun (v73 : Int32) (h74 : HP) =>
 (if v69 = v73 then
 ltt (v1 + 6) (fun (v76 : Int32) =>
 lp_Lw_law_18 L0 xs0 fu v76 h74)
 else
 some (0, h74))))))))))))
 else
 (if v5 = 7 then
 bd2 (f_CS_back h2) (fun (v78 : Int32) (h79 : HP) =>
 bd2 (f_Mo_back h79) (fun (v80 : Int32) (h81 : HP) =>
 (if v78 = v80 then
 ltt (v1 + 6) (fun (v83 : Int32) =>
 lp_Lw_law_18 L0 xs0 fu v83 h81)
 else
 some (0, h81))))
 else
 (if v5 = 8 then
 ckk (inb (v1 + 1) L0) (ltt (xs0 (Int32.toNatClampNeg (v1 + 1))) (fun (v85 : Int32) =>
 bd2 (f_CS_read v85 h2) (fun (v86 : Int32) (h87 : HP) =>
 ckk (inb (v1 + 1) L0) (ltt (xs0 (Int32.toNatClampNeg (v1 + 1))) (fun (v88 : Int32) =>
 bd2 (f_Mo_read v88 h87) (fun (v89 : Int32) (h90 : HP) =>
 (if v86 = v89 then
 ltt (v1 + 6) (fun (v92 : Int32) =>
 lp_Lw_law_18 L0 xs0 fu v92 h90)
 else
 some (0, h90))))))))
 else
 (if v5 = 9 then
 ckk (inb (v1 + 1) L0) (ltt (xs0 (Int32.toNatClampNeg (v1 + 1))) (fun (v94 : Int32) =>
 ckk (inb (v1 + 2) L0) (ltt (xs0 (Int32.toNatClampNeg (v1 + 2))) (fun (v95 : Int32) =>
 ckk (inb (v1 + 3) L0) (ltt (xs0 (Int32.toNatClampNeg (v1 + 3))) (fun (v96 : Int32) =>
 bd2 (f_CS_at v94 v95 v96 h2) (fun (v97 : Int32) (h98 : HP) =>
 ckk (inb (v1 + 1) L0) (ltt (xs0 (Int32.toNatClampNeg (v1 + 1))) (fun (v99 : Int32) =>
 ckk (inb (v1 + 2) L0) (ltt (xs0 (Int32.toNatClampNeg (v1 + 2))) (fun (v100 : Int32) =>
 ckk (inb (v1 + 3) L0) (ltt (xs0 (Int32.toNatClampNeg (v1 + 3))) (fun (v101 : Int32) =>
 bd2 (f_Mo_at v99 v100 v101 h98) (fun (v102 : Int32) (h103 : HP) =>
 (if v97 = v102 then
 ltt (v1 + 6) (fun (v105 : Int32) =>
 lp_Lw_law_18 L0 xs0 fu v105 h103)
 else
 some (0, h103))))))))))))))))
 else
 (if v5 = 10 then
 bd2 (f_CS_through h2) (fun (v107 : Int32) (h108 : HP) =>
 bd2 (f_Mo_through h108) (fun (v109 : Int32) (h110 : HP) =>
 (if v107 = v109 then
 ltt (v1 + 6) (fun (v112 : Int32) =>
 lp_Lw_law_18 L0 xs0 fu v112 h110)
 else
 some (0, h110))))
 else
 (if v5 = 11 then
 bd2 (f_CS_lost h2) (fun (v114 : Int32) (h115 : HP) =>
 bd2 (f_Mo_lost h115) (fun (v116 : Int32) (h117 : HP) =>
 (if v114 = v116 then
 ltt (v1 + 6) (fun (v119 : Int32) =>
 lp_Lw_law_18 L0 xs0 fu v119 h117)
 else
 some (0, h117))))
 else
 (if v5 = 12 then
 ckk (inb (v1 + 1) L0) (ltt (xs0 (Int32.toNatClampNeg (v1 + 1))) (fun (v121 : Int32) =>
 bd2 (f_CS_first v121 h2) (fun (v122 : Int32) (h123 : HP) =>
 ckk (inb (v1 + 1) L0) (ltt (xs0 (Int32.toNatClampNeg (v1 + 1))) (fun (v124 : Int32) =>
 bd2 (f_Mo_first v124 h123) (fun (v125 : Int32) (h126 : HP) =>
 (if v122 = v125 then
 ltt (v1 + 6) (fun (v128 : Int32) =>
 lp_Lw_law_18 L0 xs0 fu v128 h126)
 else
 some (0, h126))))))))
 else
 (if v5 = 13 then
 bd2 (f_CS_best h2) (fun (v130 : Int32) (h131 : HP) =>
 bd2 (f_Mo_best h131) (fun (v132 : Int32) (h133 : HP) =>
 (if v130 = v132 then
 ltt (v1 + 6) (fun (v135 : Int32) =>
 lp_Lw_law_18 L0 xs0 fu v135 h133)
 else
 some (0, h133))))
 else
 (if v5 = 14 then
 bd2 (f_CS_whole h2) (fun (v137 : Int32) (h138 : HP) =>
 bd2 (f_Mo_whole h138) (fun (v139 : Int32) (h140 : HP) =>
 (if v137 = v139 then
 ltt (v1 + 6) (fun (v142 : Int32) =>
 lp_Lw_law_18 L0 xs0 fu v142 h140)
 else
 some (0, h140))))
 else
 (if v5 = 15 then
 bd2 (f_CS_tired h2) (fun (v144 : Int32) (h145 : HP) =>
 bd2 (f_Mo_tired h145) (fun (v146 : Int32) (h147 : HP) =>
 (if v144 = v146 then
 ltt (v1 + 6) (fun (v149 : Int32) =>
 lp_Lw_law_18 L0 xs0 fu v149 h147)
 else
 some (0, h147))))
 else
 (if v5 = 16 then
 ckk (inb (v1 + 1) L0) (ltt (xs0 (Int32.toNatClampNeg (v1 + 1))) (fun (v151 : Int32) =>
 ckk (inb (v1 + 2) L0) (ltt (xs0 (Int32.toNatClampNeg (v1 + 2))) (fun (v152 : Int32) =>
 bd2 (f_CS_last v151 v152 h2) (fun (v153 : Int32) (h154 : HP) =>
 ckk (inb (v1 + 1) L0) (ltt (xs0 (Int32.toNatClampNeg (v1 + 1))) (fun (v155 : Int32) =>
 ckk (inb (v1 + 2) L0) (ltt (xs0 (Int32.toNatClampNeg (v1 + 2))) (fun (v156 : Int32) =>
 bd2 (f_Mo_last v155 v156 h154) (fun (v157 : Int32) (h158 : HP) =>
 (if v153 = v157 then
 ltt (v1 + 6) (fun (v160 : Int32) =>
 lp_Lw_law_18 L0 xs0 fu v160 h158)
 else
 some (0, h158))))))))))))
 else
 (if v5 = 17 then
 ckk (inb (v1 + 1) L0) (ltt (xs0 (Int32.toNatClampNeg (v1 + 1))) (fun (v162 : Int32) =>
 ckk (inb (v1 + 2) L0) (ltt (xs0 (Int32.toNatClampNeg (v1 + 2))) (fun (v163 : Int32) =>
 bd2 (f_CS_bear v162 v163 h2) (fun (v164 : Int32) (h165 : HP) =>
 ckk (inb (v1 + 1) L0) (ltt (xs0 (Int32.toNatClampNeg (v1 + 1))) (fun (v166 : Int32) =>
 ckk (inb (v1 + 2) L0) (ltt (xs0 (Int32.toNatClampNeg (v1 + 2))) (fun (v167 : Int32) =>
 bd2 (f_Mo_bear v166 v167 h165) (fun (v168 : Int32) (h169 : HP) =>
 (if v164 = v168 then
 ltt (v1 + 6) (fun (v171 : Int32) =>
 lp_Lw_law_18 L0 xs0 fu v171 h169)
 else
 some (0, h169))))))))))))
 else
 (if v5 = 18 then
 ckk (inb (v1 + 1) L0) (ltt (xs0 (Int32.toNatClampNeg (v1 + 1))) (fun (v173 : Int32) =>
 ckk (inb (v1 + 2) L0) (ltt (xs0 (Int32.toNatClampNeg (v1 + 2))) (fun (v174 : Int32) =>
 bd2 (f_CS_when v173 v174 h2) (fun (v175 : Int32) (h176 : HP) =>
 ckk (inb (v1 + 1) L0) (ltt (xs0 (Int32.toNatClampNeg (v1 + 1))) (fun (v177 : Int32) =>
 ckk (inb (v1 + 2) L0) (ltt (xs0 (Int32.toNatClampNeg (v1 + 2))) (fun (v178 : Int32) =>
 bd2 (f_Mo_when v177 v178 h176) (fun (v179 : Int32) (h180 : HP) =>
 (if v175 = v179 then
 ltt (v1 + 6) (fun (v182 : Int32) =>
 lp_Lw_law_18 L0 xs0 fu v182 h180)
 else
 some (0, h180))))))))))))
 else
 (if v5 = 19 then
 ckk (inb (v1 + 1) L0) (ltt (xs0 (Int32.toNatClampNeg (v1 + 1))) (fun (v184 : Int32) =>
 bd2 (f_CS_spare v184 h2) (fun (v185 : Int32) (h186 : HP) =>
 ckk (inb (v1 + 1) L0) (ltt (xs0 (Int32.toNatClampNeg (v1 + 1))) (fun (v187 : Int32) =>
 bd2 (f_Mo_spare v187 h186) (fun (v188 : Int32) (h189 : HP) =>
 (if v185 = v188 then
 ltt (v1 + 6) (fun (v191 : Int32) =>
 lp_Lw_law_18 L0 xs0 fu v191 h189)
 else
 some (0, h189))))))))
 else
 (if v5 = 20 then
 ckk (inb (v1 + 1) L0) (ltt (xs0 (Int32.toNatClampNeg (v1 + 1))) (fun (v193 : Int32) =>
 ckk (inb (v1 + 2) L0) (ltt (xs0 (Int32.toNatClampNeg (v1 + 2))) (fun (v194 : Int32) =>
 ckk (inb (v1 + 3) L0) (ltt (xs0 (Int32.toNatClampNeg (v1 + 3))) (fun (v195 : Int32) =>
 bd2 (f_CS_seen v193 v194 v195 h2) (fun (v196 : Int32) (h197 : HP) =>
 ckk (inb (v1 + 1) L0) (ltt (xs0 (Int32.toNatClampNeg (v1 + 1))) (fun (v198 : Int32) =>
 ckk (inb (v1 + 2) L0) (ltt (xs0 (Int32.toNatClampNeg (v1 + 2))) (fun (v199 : Int32) =>
 ckk (inb (v1 + 3) L0) (ltt (xs0 (Int32.toNatClampNeg (v1 + 3))) (fun (v200 : Int32) =>
 bd2 (f_Mo_seen v198 v199 v200 h197) (fun (v201 : Int32) (h202 : HP) =>
 (if v196 = v201 then
 ltt (v1 + 6) (fun (v204 : Int32) =>
 lp_Lw_law_18 L0 xs0 fu v204 h202)
 else
 some (0, h202))))))))))))))))
 else
 (if v5 = 21 then
 bd2 (f_CS_forget h2) (fun (v206 : Int32) (h207 : HP) =>
 bd2 (f_Mo_forget h207) (fun (v208 : Int32) (h209 : HP) =>
 (if v206 = v208 then
 ltt (v1 + 6) (fun (v211 : Int32) =>
 lp_Lw_law_18 L0 xs0 fu v211 h209)
 else
 some (0, h209))))
 else
 (if v5 = 22 then
 bd2 (f_CS_never h2) (fun (v213 : Int32) (h214 : HP) =>
 bd2 (f_Mo_never h214) (fun (v215 : Int32) (h216 : HP) =>
 (if v213 = v215 then
 ltt (v1 + 6) (fun (v218 : Int32) =>
 lp_Lw_law_18 L0 xs0 fu v218 h216)
 else
 some (0, h216))))
 else
 (if v5 = 23 then
 ckk (inb (v1 + 1) L0) (ltt (xs0 (Int32.toNatClampNeg (v1 + 1))) (fun (v220 : Int32) =>
 ckk (inb (v1 + 2) L0) (ltt (xs0 (Int32.toNatClampNeg (v1 + 2))) (fun (v221 : Int32) =>
 bd2 (f_CS_was v220 v221 h2) (fun (v222 : Int32) (h223 : HP) =>
 ckk (inb (v1 + 1) L0) (ltt (xs0 (Int32.toNatClampNeg (v1 + 1))) (fun (v224 : Int32) =>
 ckk (inb (v1 + 2) L0) (ltt (xs0 (Int32.toNatClampNeg (v1 + 2))) (fun (v225 : Int32) =>
 bd2 (f_Mo_was v224 v225 h223) (fun (v226 : Int32) (h227 : HP) =>
 (if v222 = v226 then
 ltt (v1 + 6) (fun (v229 : Int32) =>
 lp_Lw_law_18 L0 xs0 fu v229 h227)
 else
 some (0, h227))))))))))))
 else
 (if v5 = 24 then
 ckk (inb (v1 + 1) L0) (ltt (xs0 (Int32.toNatClampNeg (v1 + 1))) (fun (v231 : Int32) =>
 bd2 (f_CS_ask v231 h2) (fun (v232 : Int32) (h233 : HP) =>
 ckk (inb (v1 + 1) L0) (ltt (xs0 (Int32.toNatClampNeg (v1 + 1))) (fun (v234 : Int32) =>
 bd2 (f_Mo_ask v234 h233) (fun (v235 : Int32) (h236 : HP) =>
 (if v232 = v235 then
 ltt (v1 + 6) (fun (v238 : Int32) =>
 lp_Lw_law_18 L0 xs0 fu v238 h236)
 else
 some (0, h236))))))))
 else
 (if v5 = 25 then
 ckk (inb (v1 + 1) L0) (ltt (xs0 (Int32.toNatClampNeg (v1 + 1))) (fun (v240 : Int32) =>
 ckk (inb (v1 + 2) L0) (ltt (xs0 (Int32.toNatClampNeg (v1 + 2))) (fun (v241 : Int32) =>
 ckk (inb (v1 + 3) L0) (ltt (xs0 (Int32.toNatClampNeg (v1 + 3))) (fun (v242 : Int32) =>
 bd2 (f_CS_chance v240 v241 v242 h2) (fun (v243 : Int64) (h244 : HP) =>
 ckk (inb (v1 + 1) L0) (ltt (xs0 (Int32.toNatClampNeg (v1 + 1))) (fun (v245 : Int32) =>
 ckk (inb (v1 + 2) L0) (ltt (xs0 (Int32.toNatClampNeg (v1 + 2))) (fun (v246 : Int32) =>
 ckk (inb (v1 + 3) L0) (ltt (xs0 (Int32.toNatClampNeg (v1 + 3))) (fun (v247 : Int32) =>
 bd2 (f_Mo_chance v245 v246 v247 h244) (fun (v248 : Int64) (h249 : HP) =>
 (if lg_cmp v243 v248 = 0 then
 ltt (v1 + 6) (fun (v251 : Int32) =>
 lp_Lw_law_18 L0 xs0 fu v251 h249)
 else
 some (0, h249))))))))))))))))
 else
 (if v5 = 26 then
 ckk (inb (v1 + 1) L0) (ltt (xs0 (Int32.toNatClampNeg (v1 + 1))) (fun (v253 : Int32) =>
 ckk (inb (v1 + 2) L0) (ltt (xs0 (Int32.toNatClampNeg (v1 + 2))) (fun (v254 : Int32) =>
 ckk (inb (v1 + 3) L0) (ltt (xs0 (Int32.toNatClampNeg (v1 + 3))) (fun (v255 : Int32) =>
 bd2 (f_CS_years v253 v254 v255 h2) (fun (v256 : Int32) (h257 : HP) =>
 ckk (inb (v1 + 1) L0) (ltt (xs0 (Int32.toNatClampNeg (v1 + 1))) (fun (v258 : Int32) =>
 ckk (inb (v1 + 2) L0) (ltt (xs0 (Int32.toNatClampNeg (v1 + 2))) (fun (v259 : Int32) =>
 ckk (inb (v1 + 3) L0) (ltt (xs0 (Int32.toNatClampNeg (v1 + 3))) (fun (v260 : Int32) =>
 bd2 (f_Mo_years v258 v259 v260 h257) (fun (v261 : Int32) (h262 : HP) =>
 (if v256 = v261 then
 ltt (v1 + 6) (fun (v264 : Int32) =>
 lp_Lw_law_18 L0 xs0 fu v264 h262)
 else
 some (0, h262))))))))))))))))
 else
 (if v5 = 27 then
 ckk (inb (v1 + 1) L0) (ltt (xs0 (Int32.toNatClampNeg (v1 + 1))) (fun (v266 : Int32) =>
 ckk (inb (v1 + 2) L0) (ltt (xs0 (Int32.toNatClampNeg (v1 + 2))) (fun (v267 : Int32) =>
 ckk (inb (v1 + 3) L0) (ltt (xs0 (Int32.toNatClampNeg (v1 + 3))) (fun (v268 : Int32) =>
 bd2 (f_CS_sheet v266 v267 v268 h2) (fun (v269 : Int32) (h270 : HP) =>
 ckk (inb (v1 + 1) L0) (ltt (xs0 (Int32.toNatClampNeg (v1 + 1))) (fun (v271 : Int32) =>
 ckk (inb (v1 + 2) L0) (ltt (xs0 (Int32.toNatClampNeg (v1 + 2))) (fun (v272 : Int32) =>
 ckk (inb (v1 + 3) L0) (ltt (xs0 (Int32.toNatClampNeg (v1 + 3))) (fun (v273 : Int32) =>
 bd2 (f_Mo_sheet v271 v272 v273 h270) (fun (v274 : Int32) (h275 : HP) =>
 (if v269 = v274 then
 ltt (v1 + 6) (fun (v277 : Int32) =>
 lp_Lw_law_18 L0 xs0 fu v277 h275)
 else
 some (0, h275))))))))))))))))
 else
 (if v5 = 28 then
 ckk (inb (v1 + 1) L0) (ltt (xs0 (Int32.toNatClampNeg (v1 + 1))) (fun (v279 : Int32) =>
 bd2 (f_CS_lose v279 h2) (fun (v280 : Int32) (h281 : HP) =>
 ckk (inb (v1 + 1) L0) (ltt (xs0 (Int32.toNatClampNeg (v1 + 1))) (fun (v282 : Int32) =>
 bd2 (f_Mo_lose v282 h281) (fun (v283 : Int32) (h284 : HP) =>
 (if v280 = v283 then
 ltt (v1 + 6) (fun (v286 : Int32) =>
 lp_Lw_law_18 L0 xs0 fu v286 h284)
 else
 some (0, h284))))))))
 else
 (if v5 = 29 then
 ckk (inb (v1 + 1) L0) (ltt (xs0 (Int32.toNatClampNeg (v1 + 1))) (fun (v288 : Int32) =>
 ckk (inb (v1 + 2) L0) (ltt (xs0 (Int32.toNatClampNeg (v1 + 2))) (fun (v289 : Int32) =>
 ckk (inb (v1 + 3) L0) (ltt (xs0 (Int32.toNatClampNeg (v1 + 3))) (fun (v290 : Int32) =>
 ckk (inb (v1 + 4) L0) (ltt (xs0 (Int32.toNatClampNeg (v1 + 4))) (fun (v291 : Int32) =>
 bd2 (f_CS_put v288 v289 v290 v291 h2) (fun (v292 : Int32) (h293 : HP) =>
 ckk (inb (v1 + 1) L0) (ltt (xs0 (Int32.toNatClampNeg (v1 + 1))) (fun (v294 : Int32) =>
 ckk (inb (v1 + 2) L0) (ltt (xs0 (Int32.toNatClampNeg (v1 + 2))) (fun (v295 : Int32) =>
 ckk (inb (v1 + 3) L0) (ltt (xs0 (Int32.toNatClampNeg (v1 + 3))) (fun (v296 : Int32) =>
 ckk (inb (v1 + 4) L0) (ltt (xs0 (Int32.toNatClampNeg (v1 + 4))) (fun (v297 : Int32) =>
 bd2 (f_Mo_put v294 v295 v296 v297 h293) (fun (v298 : Int32) (h299 : HP) =>
 (if v292 = v298 then
 ltt (v1 + 6) (fun (v301 : Int32) =>
 lp_Lw_law_18 L0 xs0 fu v301 h299)
 else
 some (0, h299))))))))))))))))))))
 else
 (if v5 = 30 then
 ckk (inb (v1 + 1) L0) (ltt (xs0 (Int32.toNatClampNeg (v1 + 1))) (fun (v303 : Int32) =>
 ckk (inb (v1 + 2) L0) (ltt (xs0 (Int32.toNatClampNeg (v1 + 2))) (fun (v304 : Int32) =>
 ckk (inb (v1 + 3) L0) (ltt (xs0 (Int32.toNatClampNeg (v1 + 3))) (fun (v305 : Int32) =>
 bd2 (f_CS_get v303 v304 v305 h2) (fun (v306 : Int32) (h307 : HP) =>
 ckk (inb (v1 + 1) L0) (ltt (xs0 (Int32.toNatClampNeg (v1 + 1))) (fun (v308 : Int32) =>
 ckk (inb (v1 + 2) L0) (ltt (xs0 (Int32.toNatClampNeg (v1 + 2))) (fun (v309 : Int32) =>
 ckk (inb (v1 + 3) L0) (ltt (xs0 (Int32.toNatClampNeg (v1 + 3))) (fun (v310 : Int32) =>
 bd2 (f_Mo_get v308 v309 v310 h307) (fun (v311 : Int32) (h312 : HP) =>
 (if v306 = v311 then
 ltt (v1 + 6) (fun (v314 : Int32) =>
 lp_Lw_law_18 L0 xs0 fu v314 h312)
 else
 some (0, h312))))))))))))))))
 else
 (if v5 = 31 then
 ckk (inb (v1 + 1) L0) (ltt (xs0 (Int32.toNatClampNeg (v1 + 1))) (fun (v316 : Int32) =>
 ckk (inb (v1 + 2) L0) (ltt (xs0 (Int32.toNatClampNeg (v1 + 2))) (fun (v317 : Int32) =>
 ckk (inb (v1 + 3) L0) (ltt (xs0 (Int32.toNatClampNeg (v1 + 3))) (fun (v318 : Int32) =>
 ckk (inb (v1 + 4) L0) (ltt (xs0 (Int32.toNatClampNeg (v1 + 4))) (fun (v319 : Int32) =>
 ckk (inb (v1 + 5) L0) (ltt (xs0 (Int32.toNatClampNeg (v1 + 5))) (fun (v320 : Int32) =>
 bd2 (f_CS_copy v316 v317 v318 v319 v320 h2) (fun (v321 : Int32) (h322 : HP) =>
 ckk (inb (v1 + 1) L0) (ltt (xs0 (Int32.toNatClampNeg (v1 + 1))) (fun (v323 : Int32) =>
 ckk (inb (v1 + 2) L0) (ltt (xs0 (Int32.toNatClampNeg (v1 + 2))) (fun (v324 : Int32) =>
 ckk (inb (v1 + 3) L0) (ltt (xs0 (Int32.toNatClampNeg (v1 + 3))) (fun (v325 : Int32) =>
 ckk (inb (v1 + 4) L0) (ltt (xs0 (Int32.toNatClampNeg (v1 + 4))) (fun (v326 : Int32) =>
 ckk (inb (v1 + 5) L0) (ltt (xs0 (Int32.toNatClampNeg (v1 + 5))) (fun (v327 : Int32) =>
 bd2 (f_Mo_copy v323 v324 v325 v326 v327 h322) (fun (v328 : Int32) (h329 : HP) =>
 (if v321 = v328 then
 ltt (v1 + 6) (fun (v331 : Int32) =>
 lp_Lw_law_18 L0 xs0 fu v331 h329)
 else
 some (0, h329))))))))))))))))))))))))
 else
 (if v5 = 32 then
 ckk (inb (v1 + 1) L0) (ltt (xs0 (Int32.toNatClampNeg (v1 + 1))) (fun (v333 : Int32) =>
 ckk (inb (v1 + 2) L0) (ltt (xs0 (Int32.toNatClampNeg (v1 + 2))) (fun (v334 : Int32) =>
 bd2 (f_CS_write v333 v334 h2) (fun (v335 : Int32) (h336 : HP) =>
 ckk (inb (v1 + 1) L0) (ltt (xs0 (Int32.toNatClampNeg (v1 + 1))) (fun (v337 : Int32) =>
 ckk (inb (v1 + 2) L0) (ltt (xs0 (Int32.toNatClampNeg (v1 + 2))) (fun (v338 : Int32) =>
 bd2 (f_Mo_write v337 v338 h336) (fun (v339 : Int32) (h340 : HP) =>
 (if v335 = v339 then
 ltt (v1 + 6) (fun (v342 : Int32) =>
 lp_Lw_law_18 L0 xs0 fu v342 h340)
 else
 some (0, h340))))))))))))
 else
 (if v5 = 33 then
 ckk (inb (v1 + 1) L0) (ltt (xs0 (Int32.toNatClampNeg (v1 + 1))) (fun (v344 : Int32) =>
 bd2 (f_CS_count v344 h2) (fun (v345 : Int32) (h346 : HP) =>
 ckk (inb (v1 + 1) L0) (ltt (xs0 (Int32.toNatClampNeg (v1 + 1))) (fun (v347 : Int32) =>
 bd2 (f_Mo_count v347 h346) (fun (v348 : Int32) (h349 : HP) =>
 (if v345 = v348 then
 ltt (v1 + 6) (fun (v351 : Int32) =>
 lp_Lw_law_18 L0 xs0 fu v351 h349)
 else
 some (0, h349))))))))
 else
 (if v5 = 34 then
 bd2 (f_CS_digest h2) (fun (v353 : Int64) (h354 : HP) =>
 bd2 (f_Mo_digest h354) (fun (v355 : Int64) (h356 : HP) =>
 (if lg_cmp v353 v355 = 0 then
 ltt (v1 + 6) (fun (v358 : Int32) =>
 lp_Lw_law_18 L0 xs0 fu v358 h356)
 else
 some (0, h356))))
 else
 ltt (v1 + 6) (fun (v359 : Int32) =>
 lp_Lw_law_18 L0 xs0 fu v359 h2))))))))))))))))))))))))))))))))))))))))
def f_law (L0 : Nat) (xs0 : Nat → Int32) (h0 : HP) : Option (Int32 × HP) :=
 lp_Lw_law_18 L0 xs0 400 0 h0
set_option maxRecDepth 20000 in
set_option maxHeartbeats 4000000 in
theorem mlp_Lw_law_18 (l : Launch) (g : GG) (ad : Nat → Nat) (Q : Option Value → va_W → Prop) (b0 L0 : Nat) (xs0 : Nat → Int32) : ∀ (fu : Nat) (v1 : Int32) (h2 : HP), Jj (fun a : Int32 × HP => Q (enI a).1 (pic g ad (enI a).2)) (lp_Lw_law_18 L0 xs0 fu v1 h2) (Vw (kx_Lw_law l g b0 L0 xs0 Q) 72 2969 18 [(3, .int v1), (2, .ref (ad 34)), (1, .ref (ad 71)), (0, .ref b0)] [] (pic g ad h2)) := by
  intro fu
  induction fu with
  | zero =>
    intro v1 h2
    exact J_none
  | succ fu ih =>
    intro v1 h2
    rw [lp_Lw_law_18]
    refine J_iload_n 0 rfl d_Lw_law_18 ?_
    refine J_aload_n 3 rfl d_Lw_law_19 ?_
    refine J_slen rfl d_Lw_law_20 ?_
    refine J_bipush (v := 6) rfl d_Lw_law_21 ?_
    refine J_isub d_Lw_law_23 ?_
    refine J_icmp_gt 1191 rfl d_Lw_law_24 (fun c3 => ?_) (fun c3 => ?_)
    · refine J_iconst (v := 1) rfl d_Lw_law_1191 ?_
      exact J_zret (Nat.le_of_ble_eq_true rfl) (Nat.le_of_ble_eq_true rfl) d_Lw_law_1192 rfl (zfit (Or.inr rfl)).1 (fun hx => hx)
    · refine J_aload_n 3 rfl d_Lw_law_27 ?_
      refine J_iload_n 0 rfl d_Lw_law_28 ?_
      refine J_sld rfl d_Lw_law_29 ?_
      refine J_topi (fun v4 => ?_)
      refine J_bipush (v := 63) rfl d_Lw_law_30 ?_
      refine J_iand d_Lw_law_32 ?_
      refine J_topi (fun v5 => ?_)
      refine J_ite (fun c6 => ?_) (fun c6 => ?_)
      · refine J_tswIn 188 (by rw [c6]; decide) (by rw [c6]; decide) (by rw [c6]; try rfl) rfl d_Lw_law_33 ?_
        refine J_aload_n 2 rfl d_Lw_law_188 ?_
        refine J_aload_n 3 rfl d_Lw_law_189 ?_
        refine J_iload_n 0 rfl d_Lw_law_190 ?_
        refine J_iconst (v := 1) rfl d_Lw_law_191 ?_
        refine J_iadd d_Lw_law_192 ?_
        refine J_sld rfl d_Lw_law_193 ?_
        refine J_topi (fun v7 => ?_)
        refine J_aload_n 3 rfl d_Lw_law_194 ?_
        refine J_iload_n 0 rfl d_Lw_law_195 ?_
        refine J_iconst (v := 2) rfl d_Lw_law_196 ?_
        refine J_iadd d_Lw_law_197 ?_
        refine J_sld rfl d_Lw_law_198 ?_
        refine J_topi (fun v8 => ?_)
        refine J_callVi (m_CS_type l g ad _ _ _) ok_CS_type rc_71 wi_CS_type wl_CS_CS_type wk_Lw_13 ⟨rfl, rfl, Nat.le_of_ble_eq_true rfl, Nat.le_of_ble_eq_true rfl⟩ ⟨Nat.le_of_ble_eq_true rfl, Nat.le_of_ble_eq_true rfl⟩ (rest := []) rfl rfl (Nat.le_of_ble_eq_true rfl) d_Lw_law_199 (fun v9 h10 => ?_)
        refine J_aload_n 1 rfl d_Lw_law_202 ?_
        refine J_aload_n 3 rfl d_Lw_law_203 ?_
        refine J_iload_n 0 rfl d_Lw_law_204 ?_
        refine J_iconst (v := 1) rfl d_Lw_law_205 ?_
        refine J_iadd d_Lw_law_206 ?_
        refine J_sld rfl d_Lw_law_207 ?_
        refine J_topi (fun v11 => ?_)
        refine J_aload_n 3 rfl d_Lw_law_208 ?_
        refine J_iload_n 0 rfl d_Lw_law_209 ?_
        refine J_iconst (v := 2) rfl d_Lw_law_210 ?_
        refine J_iadd d_Lw_law_211 ?_
        refine J_sld rfl d_Lw_law_212 ?_
        refine J_topi (fun v12 => ?_)
        refine J_callVi (m_Mo_type l g ad _ _ _) ok_Mo_type rc_34 wi_Mo_type wl_Mo_Mo_type wk_Lw_17 ⟨rfl, rfl, Nat.le_of_ble_eq_true rfl, Nat.le_of_ble_eq_true rfl⟩ ⟨Nat.le_of_ble_eq_true rfl, Nat.le_of_ble_eq_true rfl⟩ (rest := [.int v9]) rfl rfl (Nat.le_of_ble_eq_true rfl) d_Lw_law_213 (fun v13 h14 => ?_)
        refine J_icmp_eq 1185 rfl d_Lw_law_216 (fun c15 => ?_) (fun c15 => ?_)
        · refine P_inc (w := 6) (lv' := fun v16 => [(3, .int v16), (2, .ref (ad 34)), (1, .ref (ad 71)), (0, .ref b0)]) 0 rfl rfl (Nat.le_of_ble_eq_true rfl) (fun _ => rfl) d_Lw_law_1185 (fun v16 => ?_)
          refine J_goto 18 rfl d_Lw_law_1188 ?_
          exact J_sub [0, 1, 2, 3] rfl (ih _ _)
        · refine J_iconst (v := 0) rfl d_Lw_law_219 ?_
          exact J_zret (Nat.le_of_ble_eq_true rfl) (Nat.le_of_ble_eq_true rfl) d_Lw_law_220 rfl (zfit (Or.inl rfl)).1 (fun hx => hx)
      · refine J_ite (fun c17 => ?_) (fun c17 => ?_)
        · refine J_tswIn 221 (by rw [c17]; decide) (by rw [c17]; decide) (by rw [c17]; try rfl) rfl d_Lw_law_33 ?_
          refine J_aload_n 2 rfl d_Lw_law_221 ?_
          refine J_aload_n 3 rfl d_Lw_law_222 ?_
          refine J_iload_n 0 rfl d_Lw_law_223 ?_
          refine J_iconst (v := 1) rfl d_Lw_law_224 ?_
          refine J_iadd d_Lw_law_225 ?_
          refine J_sld rfl d_Lw_law_226 ?_
          refine J_topi (fun v18 => ?_)
          refine J_callVi (m_CS_wipe l g ad _ _) ok_CS_wipe rc_71 wi_CS_wipe wl_CS_CS_wipe wk_Lw_18 ⟨rfl, rfl, Nat.le_of_ble_eq_true rfl, Nat.le_of_ble_eq_true rfl⟩ ⟨Nat.le_of_ble_eq_true rfl, Nat.le_of_ble_eq_true rfl⟩ (rest := []) rfl rfl (Nat.le_of_ble_eq_true rfl) d_Lw_law_227 (fun v19 h20 => ?_)
          refine J_aload_n 1 rfl d_Lw_law_230 ?_
          refine J_aload_n 3 rfl d_Lw_law_231 ?_
          refine J_iload_n 0 rfl d_Lw_law_232 ?_
          refine J_iconst (v := 1) rfl d_Lw_law_233 ?_
          refine J_iadd d_Lw_law_234 ?_
          refine J_sld rfl d_Lw_law_235 ?_
          refine J_topi (fun v21 => ?_)
          refine J_callVi (m_Mo_wipe l g ad _ _) ok_Mo_wipe rc_34 wi_Mo_wipe wl_Mo_Mo_wipe wk_Lw_22 ⟨rfl, rfl, Nat.le_of_ble_eq_true rfl, Nat.le_of_ble_eq_true rfl⟩ ⟨Nat.le_of_ble_eq_true rfl, Nat.le_of_ble_eq_true rfl⟩ (rest := [.int v19]) rfl rfl (Nat.le_of_ble_eq_true rfl) d_Lw_law_236 (fun v22 h23 => ?_)
          refine J_icmp_eq 1185 rfl d_Lw_law_239 (fun c24 => ?_) (fun c24 => ?_)
          · refine P_inc (w := 6) (lv' := fun v25 => [(3, .int v25), (2, .ref (ad 34)), (1, .ref (ad 71)), (0, .ref b0)]) 0 rfl rfl (Nat.le_of_ble_eq_true rfl) (fun _ => rfl) d_Lw_law_1185 (fun v25 => ?_)
            refine J_goto 18 rfl d_Lw_law_1188 ?_
            exact J_sub [0, 1, 2, 3] rfl (ih _ _)
          · refine J_iconst (v := 0) rfl d_Lw_law_242 ?_
            exact J_zret (Nat.le_of_ble_eq_true rfl) (Nat.le_of_ble_eq_true rfl) d_Lw_law_243 rfl (zfit (Or.inl rfl)).1 (fun hx => hx)
        · refine J_ite (fun c26 => ?_) (fun c26 => ?_)
          · refine J_tswIn 244 (by rw [c26]; decide) (by rw [c26]; decide) (by rw [c26]; try rfl) rfl d_Lw_law_33 ?_
            refine J_aload_n 2 rfl d_Lw_law_244 ?_
            refine J_aload_n 3 rfl d_Lw_law_245 ?_
            refine J_iload_n 0 rfl d_Lw_law_246 ?_
            refine J_iconst (v := 1) rfl d_Lw_law_247 ?_
            refine J_iadd d_Lw_law_248 ?_
            refine J_sld rfl d_Lw_law_249 ?_
            refine J_topi (fun v27 => ?_)
            refine J_callVi (m_CS_undo l g ad _ _) ok_CS_undo rc_71 wi_CS_undo wl_CS_CS_undo wk_Lw_23 ⟨rfl, rfl, Nat.le_of_ble_eq_true rfl, Nat.le_of_ble_eq_true rfl⟩ ⟨Nat.le_of_ble_eq_true rfl, Nat.le_of_ble_eq_true rfl⟩ (rest := []) rfl rfl (Nat.le_of_ble_eq_true rfl) d_Lw_law_250 (fun v28 h29 => ?_)
            refine J_aload_n 1 rfl d_Lw_law_253 ?_
            refine J_aload_n 3 rfl d_Lw_law_254 ?_
            refine J_iload_n 0 rfl d_Lw_law_255 ?_
            refine J_iconst (v := 1) rfl d_Lw_law_256 ?_
            refine J_iadd d_Lw_law_257 ?_
            refine J_sld rfl d_Lw_law_258 ?_
            refine J_topi (fun v30 => ?_)
            refine J_callVi (m_Mo_undo l g ad _ _) ok_Mo_undo rc_34 wi_Mo_undo wl_Mo_Mo_undo wk_Lw_26 ⟨rfl, rfl, Nat.le_of_ble_eq_true rfl, Nat.le_of_ble_eq_true rfl⟩ ⟨Nat.le_of_ble_eq_true rfl, Nat.le_of_ble_eq_true rfl⟩ (rest := [.int v28]) rfl rfl (Nat.le_of_ble_eq_true rfl) d_Lw_law_259 (fun v31 h32 => ?_)
            refine J_icmp_eq 1185 rfl d_Lw_law_262 (fun c33 => ?_) (fun c33 => ?_)
            · refine P_inc (w := 6) (lv' := fun v34 => [(3, .int v34), (2, .ref (ad 34)), (1, .ref (ad 71)), (0, .ref b0)]) 0 rfl rfl (Nat.le_of_ble_eq_true rfl) (fun _ => rfl) d_Lw_law_1185 (fun v34 => ?_)
              refine J_goto 18 rfl d_Lw_law_1188 ?_
              exact J_sub [0, 1, 2, 3] rfl (ih _ _)
            · refine J_iconst (v := 0) rfl d_Lw_law_265 ?_
              exact J_zret (Nat.le_of_ble_eq_true rfl) (Nat.le_of_ble_eq_true rfl) d_Lw_law_266 rfl (zfit (Or.inl rfl)).1 (fun hx => hx)
          · refine J_ite (fun c35 => ?_) (fun c35 => ?_)
            · refine J_tswIn 267 (by rw [c35]; decide) (by rw [c35]; decide) (by rw [c35]; try rfl) rfl d_Lw_law_33 ?_
              refine J_aload_n 2 rfl d_Lw_law_267 ?_
              refine J_aload_n 3 rfl d_Lw_law_268 ?_
              refine J_iload_n 0 rfl d_Lw_law_269 ?_
              refine J_iconst (v := 1) rfl d_Lw_law_270 ?_
              refine J_iadd d_Lw_law_271 ?_
              refine J_sld rfl d_Lw_law_272 ?_
              refine J_topi (fun v36 => ?_)
              refine J_callVi (m_CS_fault l g ad _ _) ok_CS_fault rc_71 wi_CS_fault wl_CS_CS_fault wk_Lw_27 ⟨rfl, rfl, Nat.le_of_ble_eq_true rfl, Nat.le_of_ble_eq_true rfl⟩ ⟨Nat.le_of_ble_eq_true rfl, Nat.le_of_ble_eq_true rfl⟩ (rest := []) rfl rfl (Nat.le_of_ble_eq_true rfl) d_Lw_law_273 (fun v37 h38 => ?_)
              refine J_aload_n 1 rfl d_Lw_law_276 ?_
              refine J_aload_n 3 rfl d_Lw_law_277 ?_
              refine J_iload_n 0 rfl d_Lw_law_278 ?_
              refine J_iconst (v := 1) rfl d_Lw_law_279 ?_
              refine J_iadd d_Lw_law_280 ?_
              refine J_sld rfl d_Lw_law_281 ?_
              refine J_topi (fun v39 => ?_)
              refine J_callVi (m_Mo_fault l g ad _ _) ok_Mo_fault rc_34 wi_Mo_fault wl_Mo_Mo_fault wk_Lw_30 ⟨rfl, rfl, Nat.le_of_ble_eq_true rfl, Nat.le_of_ble_eq_true rfl⟩ ⟨Nat.le_of_ble_eq_true rfl, Nat.le_of_ble_eq_true rfl⟩ (rest := [.int v37]) rfl rfl (Nat.le_of_ble_eq_true rfl) d_Lw_law_282 (fun v40 h41 => ?_)
              refine J_icmp_eq 1185 rfl d_Lw_law_285 (fun c42 => ?_) (fun c42 => ?_)
              · refine P_inc (w := 6) (lv' := fun v43 => [(3, .int v43), (2, .ref (ad 34)), (1, .ref (ad 71)), (0, .ref b0)]) 0 rfl rfl (Nat.le_of_ble_eq_true rfl) (fun _ => rfl) d_Lw_law_1185 (fun v43 => ?_)
                refine J_goto 18 rfl d_Lw_law_1188 ?_
                exact J_sub [0, 1, 2, 3] rfl (ih _ _)
              · refine J_iconst (v := 0) rfl d_Lw_law_288 ?_
                exact J_zret (Nat.le_of_ble_eq_true rfl) (Nat.le_of_ble_eq_true rfl) d_Lw_law_289 rfl (zfit (Or.inl rfl)).1 (fun hx => hx)
            · refine J_ite (fun c44 => ?_) (fun c44 => ?_)
              · refine J_tswIn 290 (by rw [c44]; decide) (by rw [c44]; decide) (by rw [c44]; try rfl) rfl d_Lw_law_33 ?_
                refine J_aload_n 2 rfl d_Lw_law_290 ?_
                refine J_aload_n 3 rfl d_Lw_law_291 ?_
                refine J_iload_n 0 rfl d_Lw_law_292 ?_
                refine J_iconst (v := 1) rfl d_Lw_law_293 ?_
                refine J_iadd d_Lw_law_294 ?_
                refine J_sld rfl d_Lw_law_295 ?_
                refine J_topi (fun v45 => ?_)
                refine J_aload_n 3 rfl d_Lw_law_296 ?_
                refine J_iload_n 0 rfl d_Lw_law_297 ?_
                refine J_iconst (v := 2) rfl d_Lw_law_298 ?_
                refine J_iadd d_Lw_law_299 ?_
                refine J_sld rfl d_Lw_law_300 ?_
                refine J_topi (fun v46 => ?_)
                refine J_callVi (m_CS_camel l g ad _ _ _) ok_CS_camel rc_71 wi_CS_camel wl_CS_CS_camel wk_Lw_31 ⟨rfl, rfl, Nat.le_of_ble_eq_true rfl, Nat.le_of_ble_eq_true rfl⟩ ⟨Nat.le_of_ble_eq_true rfl, Nat.le_of_ble_eq_true rfl⟩ (rest := []) rfl rfl (Nat.le_of_ble_eq_true rfl) d_Lw_law_301 (fun v47 h48 => ?_)
                refine J_aload_n 1 rfl d_Lw_law_304 ?_
                refine J_aload_n 3 rfl d_Lw_law_305 ?_
                refine J_iload_n 0 rfl d_Lw_law_306 ?_
                refine J_iconst (v := 1) rfl d_Lw_law_307 ?_
                refine J_iadd d_Lw_law_308 ?_
                refine J_sld rfl d_Lw_law_309 ?_
                refine J_topi (fun v49 => ?_)
                refine J_aload_n 3 rfl d_Lw_law_310 ?_
                refine J_iload_n 0 rfl d_Lw_law_311 ?_
                refine J_iconst (v := 2) rfl d_Lw_law_312 ?_
                refine J_iadd d_Lw_law_313 ?_
                refine J_sld rfl d_Lw_law_314 ?_
                refine J_topi (fun v50 => ?_)
                refine J_callVi (m_Mo_camel l g ad _ _ _) ok_Mo_camel rc_34 wi_Mo_camel wl_Mo_Mo_camel wk_Lw_34 ⟨rfl, rfl, Nat.le_of_ble_eq_true rfl, Nat.le_of_ble_eq_true rfl⟩ ⟨Nat.le_of_ble_eq_true rfl, Nat.le_of_ble_eq_true rfl⟩ (rest := [.int v47]) rfl rfl (Nat.le_of_ble_eq_true rfl) d_Lw_law_315 (fun v51 h52 => ?_)
                refine J_icmp_eq 1185 rfl d_Lw_law_318 (fun c53 => ?_) (fun c53 => ?_)
                · refine P_inc (w := 6) (lv' := fun v54 => [(3, .int v54), (2, .ref (ad 34)), (1, .ref (ad 71)), (0, .ref b0)]) 0 rfl rfl (Nat.le_of_ble_eq_true rfl) (fun _ => rfl) d_Lw_law_1185 (fun v54 => ?_)
                  refine J_goto 18 rfl d_Lw_law_1188 ?_
                  exact J_sub [0, 1, 2, 3] rfl (ih _ _)
                · refine J_iconst (v := 0) rfl d_Lw_law_321 ?_
                  exact J_zret (Nat.le_of_ble_eq_true rfl) (Nat.le_of_ble_eq_true rfl) d_Lw_law_322 rfl (zfit (Or.inl rfl)).1 (fun hx => hx)
              · refine J_ite (fun c55 => ?_) (fun c55 => ?_)
                · refine J_tswIn 323 (by rw [c55]; decide) (by rw [c55]; decide) (by rw [c55]; try rfl) rfl d_Lw_law_33 ?_
                  refine J_aload_n 2 rfl d_Lw_law_323 ?_
                  refine J_aload_n 3 rfl d_Lw_law_324 ?_
                  refine J_iload_n 0 rfl d_Lw_law_325 ?_
                  refine J_iconst (v := 1) rfl d_Lw_law_326 ?_
                  refine J_iadd d_Lw_law_327 ?_
                  refine J_sld rfl d_Lw_law_328 ?_
                  refine J_topi (fun v56 => ?_)
                  refine J_aload_n 3 rfl d_Lw_law_329 ?_
                  refine J_iload_n 0 rfl d_Lw_law_330 ?_
                  refine J_iconst (v := 2) rfl d_Lw_law_331 ?_
                  refine J_iadd d_Lw_law_332 ?_
                  refine J_sld rfl d_Lw_law_333 ?_
                  refine J_topi (fun v57 => ?_)
                  refine J_callVi (m_CS_bale l g ad _ _ _) ok_CS_bale rc_71 wi_CS_bale wl_CS_CS_bale wk_Lw_35 ⟨rfl, rfl, Nat.le_of_ble_eq_true rfl, Nat.le_of_ble_eq_true rfl⟩ ⟨Nat.le_of_ble_eq_true rfl, Nat.le_of_ble_eq_true rfl⟩ (rest := []) rfl rfl (Nat.le_of_ble_eq_true rfl) d_Lw_law_334 (fun v58 h59 => ?_)
                  refine J_aload_n 1 rfl d_Lw_law_337 ?_
                  refine J_aload_n 3 rfl d_Lw_law_338 ?_
                  refine J_iload_n 0 rfl d_Lw_law_339 ?_
                  refine J_iconst (v := 1) rfl d_Lw_law_340 ?_
                  refine J_iadd d_Lw_law_341 ?_
                  refine J_sld rfl d_Lw_law_342 ?_
                  refine J_topi (fun v60 => ?_)
                  refine J_aload_n 3 rfl d_Lw_law_343 ?_
                  refine J_iload_n 0 rfl d_Lw_law_344 ?_
                  refine J_iconst (v := 2) rfl d_Lw_law_345 ?_
                  refine J_iadd d_Lw_law_346 ?_
                  refine J_sld rfl d_Lw_law_347 ?_
                  refine J_topi (fun v61 => ?_)
                  refine J_callVi (m_Mo_bale l g ad _ _ _) ok_Mo_bale rc_34 wi_Mo_bale wl_Mo_Mo_bale wk_Lw_38 ⟨rfl, rfl, Nat.le_of_ble_eq_true rfl, Nat.le_of_ble_eq_true rfl⟩ ⟨Nat.le_of_ble_eq_true rfl, Nat.le_of_ble_eq_true rfl⟩ (rest := [.int v58]) rfl rfl (Nat.le_of_ble_eq_true rfl) d_Lw_law_348 (fun v62 h63 => ?_)
                  refine J_icmp_eq 1185 rfl d_Lw_law_351 (fun c64 => ?_) (fun c64 => ?_)
                  · refine P_inc (w := 6) (lv' := fun v65 => [(3, .int v65), (2, .ref (ad 34)), (1, .ref (ad 71)), (0, .ref b0)]) 0 rfl rfl (Nat.le_of_ble_eq_true rfl) (fun _ => rfl) d_Lw_law_1185 (fun v65 => ?_)
                    refine J_goto 18 rfl d_Lw_law_1188 ?_
                    exact J_sub [0, 1, 2, 3] rfl (ih _ _)
                  · refine J_iconst (v := 0) rfl d_Lw_law_354 ?_
                    exact J_zret (Nat.le_of_ble_eq_true rfl) (Nat.le_of_ble_eq_true rfl) d_Lw_law_355 rfl (zfit (Or.inl rfl)).1 (fun hx => hx)
                · refine J_ite (fun c66 => ?_) (fun c66 => ?_)
                  · refine J_tswIn 356 (by rw [c66]; decide) (by rw [c66]; decide) (by rw [c66]; try rfl) rfl d_Lw_law_33 ?_
                    refine J_aload_n 2 rfl d_Lw_law_356 ?_
                    refine J_aload_n 3 rfl d_Lw_law_357 ?_
                    refine J_iload_n 0 rfl d_Lw_law_358 ?_
                    refine J_iconst (v := 1) rfl d_Lw_law_359 ?_
                    refine J_iadd d_Lw_law_360 ?_
                    refine J_sld rfl d_Lw_law_361 ?_
                    refine J_topi (fun v67 => ?_)
                    refine J_aload_n 3 rfl d_Lw_law_362 ?_
                    refine J_iload_n 0 rfl d_Lw_law_363 ?_
                    refine J_iconst (v := 2) rfl d_Lw_law_364 ?_
                    refine J_iadd d_Lw_law_365 ?_
                    refine J_sld rfl d_Lw_law_366 ?_
                    refine J_topi (fun v68 => ?_)
                    refine J_callVi (m_CS_straw l g ad _ _ _) ok_CS_straw rc_71 wi_CS_straw wl_CS_CS_straw wk_Lw_39 ⟨rfl, rfl, Nat.le_of_ble_eq_true rfl, Nat.le_of_ble_eq_true rfl⟩ ⟨Nat.le_of_ble_eq_true rfl, Nat.le_of_ble_eq_true rfl⟩ (rest := []) rfl rfl (Nat.le_of_ble_eq_true rfl) d_Lw_law_367 (fun v69 h70 => ?_)
                    refine J_aload_n 1 rfl d_Lw_law_370 ?_
                    refine J_aload_n 3 rfl d_Lw_law_371 ?_
                    refine J_iload_n 0 rfl d_Lw_law_372 ?_
                    refine J_iconst (v := 1) rfl d_Lw_law_373 ?_
                    refine J_iadd d_Lw_law_374 ?_
                    refine J_sld rfl d_Lw_law_375 ?_
                    refine J_topi (fun v71 => ?_)
                    refine J_aload_n 3 rfl d_Lw_law_376 ?_
                    refine J_iload_n 0 rfl d_Lw_law_377 ?_
                    refine J_iconst (v := 2) rfl d_Lw_law_378 ?_
                    refine J_iadd d_Lw_law_379 ?_
                    refine J_sld rfl d_Lw_law_380 ?_
                    refine J_topi (fun v72 => ?_)
                    refine J_callVi (m_Mo_straw l g ad _ _ _) ok_Mo_straw rc_34 wi_Mo_straw wl_Mo_Mo_straw wk_Lw_42 ⟨rfl, rfl, Nat.le_of_ble_eq_true rfl, Nat.le_of_ble_eq_true rfl⟩ ⟨Nat.le_of_ble_eq_true rfl, Nat.le_of_ble_eq_true rfl⟩ (rest := [.int v69]) rfl rfl (Nat.le_of_ble_eq_true rfl) d_Lw_law_381 (fun v73 h74 => ?_)
                    refine J_icmp_eq 1185 rfl d_Lw_law_384 (fun c75 => ?_) (fun c75 => ?_)
                    · refine P_inc (w := 6) (lv' := fun v76 => [(3, .int v76), (2, .ref (ad 34)), (1, .ref (ad 71)), (0, .ref b0)]) 0 rfl rfl (Nat.le_of_ble_eq_true rfl) (fun _ => rfl) d_Lw_law_1185 (fun v76 => ?_)
                      refine J_goto 18 rfl d_Lw_law_1188 ?_
                      exact J_sub [0, 1, 2, 3] rfl (ih _ _)
                    · refine J_iconst (v := 0) rfl d_Lw_law_387 ?_
                      exact J_zret (Nat.le_of_ble_eq_true rfl) (Nat.le_of_ble_eq_true rfl) d_Lw_law_388 rfl (zfit (Or.inl rfl)).1 (fun hx => hx)
                  · refine J_ite (fun c77 => ?_) (fun c77 => ?_)
                    · refine J_tswIn 389 (by rw [c77]; decide) (by rw [c77]; decide) (by rw [c77]; try rfl) rfl d_Lw_law_33 ?_
                      refine J_aload_n 2 rfl d_Lw_law_389 ?_
                      refine J_callVi (m_CS_back l g ad _) ok_CS_back rc_71 wi_CS_back wl_CS_CS_back wk_Lw_43 ⟨rfl, rfl, Nat.le_of_ble_eq_true rfl, Nat.le_of_ble_eq_true rfl⟩ ⟨Nat.le_of_ble_eq_true rfl, Nat.le_of_ble_eq_true rfl⟩ (rest := []) rfl rfl (Nat.le_of_ble_eq_true rfl) d_Lw_law_390 (fun v78 h79 => ?_)
                      refine J_aload_n 1 rfl d_Lw_law_393 ?_
                      refine J_callVi (m_Mo_back l g ad _) ok_Mo_back rc_34 wi_Mo_back wl_Mo_Mo_back wk_Lw_47 ⟨rfl, rfl, Nat.le_of_ble_eq_true rfl, Nat.le_of_ble_eq_true rfl⟩ ⟨Nat.le_of_ble_eq_true rfl, Nat.le_of_ble_eq_true rfl⟩ (rest := [.int v78]) rfl rfl (Nat.le_of_ble_eq_true rfl) d_Lw_law_394 (fun v80 h81 => ?_)
                      refine J_icmp_eq 1185 rfl d_Lw_law_397 (fun c82 => ?_) (fun c82 => ?_)
                      · refine P_inc (w := 6) (lv' := fun v83 => [(3, .int v83), (2, .ref (ad 34)), (1, .ref (ad 71)), (0, .ref b0)]) 0 rfl rfl (Nat.le_of_ble_eq_true rfl) (fun _ => rfl) d_Lw_law_1185 (fun v83 => ?_)
                        refine J_goto 18 rfl d_Lw_law_1188 ?_
                        exact J_sub [0, 1, 2, 3] rfl (ih _ _)
                      · refine J_iconst (v := 0) rfl d_Lw_law_400 ?_
                        exact J_zret (Nat.le_of_ble_eq_true rfl) (Nat.le_of_ble_eq_true rfl) d_Lw_law_401 rfl (zfit (Or.inl rfl)).1 (fun hx => hx)
                    · refine J_ite (fun c84 => ?_) (fun c84 => ?_)
                      · refine J_tswIn 402 (by rw [c84]; decide) (by rw [c84]; decide) (by rw [c84]; try rfl) rfl d_Lw_law_33 ?_
                        refine J_aload_n 2 rfl d_Lw_law_402 ?_
                        refine J_aload_n 3 rfl d_Lw_law_403 ?_
                        refine J_iload_n 0 rfl d_Lw_law_404 ?_
                        refine J_iconst (v := 1) rfl d_Lw_law_405 ?_
                        refine J_iadd d_Lw_law_406 ?_
                        refine J_sld rfl d_Lw_law_407 ?_
                        refine J_topi (fun v85 => ?_)
                        refine J_callVi (m_CS_read l g ad _ _) ok_CS_read rc_71 wi_CS_read wl_CS_CS_read wk_Lw_48 ⟨rfl, rfl, Nat.le_of_ble_eq_true rfl, Nat.le_of_ble_eq_true rfl⟩ ⟨Nat.le_of_ble_eq_true rfl, Nat.le_of_ble_eq_true rfl⟩ (rest := []) rfl rfl (Nat.le_of_ble_eq_true rfl) d_Lw_law_408 (fun v86 h87 => ?_)
                        refine J_aload_n 1 rfl d_Lw_law_411 ?_
                        refine J_aload_n 3 rfl d_Lw_law_412 ?_
                        refine J_iload_n 0 rfl d_Lw_law_413 ?_
                        refine J_iconst (v := 1) rfl d_Lw_law_414 ?_
                        refine J_iadd d_Lw_law_415 ?_
                        refine J_sld rfl d_Lw_law_416 ?_
                        refine J_topi (fun v88 => ?_)
                        refine J_callVi (m_Mo_read l g ad _ _) ok_Mo_read rc_34 wi_Mo_read wl_Mo_Mo_read wk_Lw_51 ⟨rfl, rfl, Nat.le_of_ble_eq_true rfl, Nat.le_of_ble_eq_true rfl⟩ ⟨Nat.le_of_ble_eq_true rfl, Nat.le_of_ble_eq_true rfl⟩ (rest := [.int v86]) rfl rfl (Nat.le_of_ble_eq_true rfl) d_Lw_law_417 (fun v89 h90 => ?_)
                        refine J_icmp_eq 1185 rfl d_Lw_law_420 (fun c91 => ?_) (fun c91 => ?_)
                        · refine P_inc (w := 6) (lv' := fun v92 => [(3, .int v92), (2, .ref (ad 34)), (1, .ref (ad 71)), (0, .ref b0)]) 0 rfl rfl (Nat.le_of_ble_eq_true rfl) (fun _ => rfl) d_Lw_law_1185 (fun v92 => ?_)
                          refine J_goto 18 rfl d_Lw_law_1188 ?_
                          exact J_sub [0, 1, 2, 3] rfl (ih _ _)
                        · refine J_iconst (v := 0) rfl d_Lw_law_423 ?_
                          exact J_zret (Nat.le_of_ble_eq_true rfl) (Nat.le_of_ble_eq_true rfl) d_Lw_law_424 rfl (zfit (Or.inl rfl)).1 (fun hx => hx)
                      · refine J_ite (fun c93 => ?_) (fun c93 => ?_)
                        · refine J_tswIn 425 (by rw [c93]; decide) (by rw [c93]; decide) (by rw [c93]; try rfl) rfl d_Lw_law_33 ?_
                          refine J_aload_n 2 rfl d_Lw_law_425 ?_
                          refine J_aload_n 3 rfl d_Lw_law_426 ?_
                          refine J_iload_n 0 rfl d_Lw_law_427 ?_
                          refine J_iconst (v := 1) rfl d_Lw_law_428 ?_
                          refine J_iadd d_Lw_law_429 ?_
                          refine J_sld rfl d_Lw_law_430 ?_
                          refine J_topi (fun v94 => ?_)
                          refine J_aload_n 3 rfl d_Lw_law_431 ?_
                          refine J_iload_n 0 rfl d_Lw_law_432 ?_
                          refine J_iconst (v := 2) rfl d_Lw_law_433 ?_
                          refine J_iadd d_Lw_law_434 ?_
                          refine J_sld rfl d_Lw_law_435 ?_
                          refine J_topi (fun v95 => ?_)
                          refine J_aload_n 3 rfl d_Lw_law_436 ?_
                          refine J_iload_n 0 rfl d_Lw_law_437 ?_
                          refine J_iconst (v := 3) rfl d_Lw_law_438 ?_
                          refine J_iadd d_Lw_law_439 ?_
                          refine J_sld rfl d_Lw_law_440 ?_
                          refine J_topi (fun v96 => ?_)
                          refine J_callVi (m_CS_at l g ad _ _ _ _) ok_CS_at rc_71 wi_CS_at wl_CS_CS_at wk_Lw_52 ⟨rfl, rfl, Nat.le_of_ble_eq_true rfl, Nat.le_of_ble_eq_true rfl⟩ ⟨Nat.le_of_ble_eq_true rfl, Nat.le_of_ble_eq_true rfl⟩ (rest := []) rfl rfl (Nat.le_of_ble_eq_true rfl) d_Lw_law_441 (fun v97 h98 => ?_)
                          refine J_aload_n 1 rfl d_Lw_law_444 ?_
                          refine J_aload_n 3 rfl d_Lw_law_445 ?_
                          refine J_iload_n 0 rfl d_Lw_law_446 ?_
                          refine J_iconst (v := 1) rfl d_Lw_law_447 ?_
                          refine J_iadd d_Lw_law_448 ?_
                          refine J_sld rfl d_Lw_law_449 ?_
                          refine J_topi (fun v99 => ?_)
                          refine J_aload_n 3 rfl d_Lw_law_450 ?_
                          refine J_iload_n 0 rfl d_Lw_law_451 ?_
                          refine J_iconst (v := 2) rfl d_Lw_law_452 ?_
                          refine J_iadd d_Lw_law_453 ?_
                          refine J_sld rfl d_Lw_law_454 ?_
                          refine J_topi (fun v100 => ?_)
                          refine J_aload_n 3 rfl d_Lw_law_455 ?_
                          refine J_iload_n 0 rfl d_Lw_law_456 ?_
                          refine J_iconst (v := 3) rfl d_Lw_law_457 ?_
                          refine J_iadd d_Lw_law_458 ?_
                          refine J_sld rfl d_Lw_law_459 ?_
                          refine J_topi (fun v101 => ?_)
                          refine J_callVi (m_Mo_at l g ad _ _ _ _) ok_Mo_at rc_34 wi_Mo_at wl_Mo_Mo_at wk_Lw_56 ⟨rfl, rfl, Nat.le_of_ble_eq_true rfl, Nat.le_of_ble_eq_true rfl⟩ ⟨Nat.le_of_ble_eq_true rfl, Nat.le_of_ble_eq_true rfl⟩ (rest := [.int v97]) rfl rfl (Nat.le_of_ble_eq_true rfl) d_Lw_law_460 (fun v102 h103 => ?_)
                          refine J_icmp_eq 1185 rfl d_Lw_law_463 (fun c104 => ?_) (fun c104 => ?_)
                          · refine P_inc (w := 6) (lv' := fun v105 => [(3, .int v105), (2, .ref (ad 34)), (1, .ref (ad 71)), (0, .ref b0)]) 0 rfl rfl (Nat.le_of_ble_eq_true rfl) (fun _ => rfl) d_Lw_law_1185 (fun v105 => ?_)
                            refine J_goto 18 rfl d_Lw_law_1188 ?_
                            exact J_sub [0, 1, 2, 3] rfl (ih _ _)
                          · refine J_iconst (v := 0) rfl d_Lw_law_466 ?_
                            exact J_zret (Nat.le_of_ble_eq_true rfl) (Nat.le_of_ble_eq_true rfl) d_Lw_law_467 rfl (zfit (Or.inl rfl)).1 (fun hx => hx)
                        · refine J_ite (fun c106 => ?_) (fun c106 => ?_)
                          · refine J_tswIn 468 (by rw [c106]; decide) (by rw [c106]; decide) (by rw [c106]; try rfl) rfl d_Lw_law_33 ?_
                            refine J_aload_n 2 rfl d_Lw_law_468 ?_
                            refine J_callVi (m_CS_through l g ad _) ok_CS_through rc_71 wi_CS_through wl_CS_CS_through wk_Lw_57 ⟨rfl, rfl, Nat.le_of_ble_eq_true rfl, Nat.le_of_ble_eq_true rfl⟩ ⟨Nat.le_of_ble_eq_true rfl, Nat.le_of_ble_eq_true rfl⟩ (rest := []) rfl rfl (Nat.le_of_ble_eq_true rfl) d_Lw_law_469 (fun v107 h108 => ?_)
                            refine J_aload_n 1 rfl d_Lw_law_472 ?_
                            refine J_callVi (m_Mo_through l g ad _) ok_Mo_through rc_34 wi_Mo_through wl_Mo_Mo_through wk_Lw_60 ⟨rfl, rfl, Nat.le_of_ble_eq_true rfl, Nat.le_of_ble_eq_true rfl⟩ ⟨Nat.le_of_ble_eq_true rfl, Nat.le_of_ble_eq_true rfl⟩ (rest := [.int v107]) rfl rfl (Nat.le_of_ble_eq_true rfl) d_Lw_law_473 (fun v109 h110 => ?_)
                            refine J_icmp_eq 1185 rfl d_Lw_law_476 (fun c111 => ?_) (fun c111 => ?_)
                            · refine P_inc (w := 6) (lv' := fun v112 => [(3, .int v112), (2, .ref (ad 34)), (1, .ref (ad 71)), (0, .ref b0)]) 0 rfl rfl (Nat.le_of_ble_eq_true rfl) (fun _ => rfl) d_Lw_law_1185 (fun v112 => ?_)
                              refine J_goto 18 rfl d_Lw_law_1188 ?_
                              exact J_sub [0, 1, 2, 3] rfl (ih _ _)
                            · refine J_iconst (v := 0) rfl d_Lw_law_479 ?_
                              exact J_zret (Nat.le_of_ble_eq_true rfl) (Nat.le_of_ble_eq_true rfl) d_Lw_law_480 rfl (zfit (Or.inl rfl)).1 (fun hx => hx)
                          · refine J_ite (fun c113 => ?_) (fun c113 => ?_)
                            · refine J_tswIn 481 (by rw [c113]; decide) (by rw [c113]; decide) (by rw [c113]; try rfl) rfl d_Lw_law_33 ?_
                              refine J_aload_n 2 rfl d_Lw_law_481 ?_
                              refine J_callVi (m_CS_lost l g ad _) ok_CS_lost rc_71 wi_CS_lost wl_CS_CS_lost wk_Lw_61 ⟨rfl, rfl, Nat.le_of_ble_eq_true rfl, Nat.le_of_ble_eq_true rfl⟩ ⟨Nat.le_of_ble_eq_true rfl, Nat.le_of_ble_eq_true rfl⟩ (rest := []) rfl rfl (Nat.le_of_ble_eq_true rfl) d_Lw_law_482 (fun v114 h115 => ?_)
                              refine J_aload_n 1 rfl d_Lw_law_485 ?_
                              refine J_callVi (m_Mo_lost l g ad _) ok_Mo_lost rc_34 wi_Mo_lost wl_Mo_Mo_lost wk_Lw_64 ⟨rfl, rfl, Nat.le_of_ble_eq_true rfl, Nat.le_of_ble_eq_true rfl⟩ ⟨Nat.le_of_ble_eq_true rfl, Nat.le_of_ble_eq_true rfl⟩ (rest := [.int v114]) rfl rfl (Nat.le_of_ble_eq_true rfl) d_Lw_law_486 (fun v116 h117 => ?_)
                              refine J_icmp_eq 1185 rfl d_Lw_law_489 (fun c118 => ?_) (fun c118 => ?_)
                              · refine P_inc (w := 6) (lv' := fun v119 => [(3, .int v119), (2, .ref (ad 34)), (1, .ref (ad 71)), (0, .ref b0)]) 0 rfl rfl (Nat.le_of_ble_eq_true rfl) (fun _ => rfl) d_Lw_law_1185 (fun v119 => ?_)
                                refine J_goto 18 rfl d_Lw_law_1188 ?_
                                exact J_sub [0, 1, 2, 3] rfl (ih _ _)
                              · refine J_iconst (v := 0) rfl d_Lw_law_492 ?_
                                exact J_zret (Nat.le_of_ble_eq_true rfl) (Nat.le_of_ble_eq_true rfl) d_Lw_law_493 rfl (zfit (Or.inl rfl)).1 (fun hx => hx)
                            · refine J_ite (fun c120 => ?_) (fun c120 => ?_)
                              · refine J_tswIn 494 (by rw [c120]; decide) (by rw [c120]; decide) (by rw [c120]; try rfl) rfl d_Lw_law_33 ?_
                                refine J_aload_n 2 rfl d_Lw_law_494 ?_
                                refine J_aload_n 3 rfl d_Lw_law_495 ?_
                                refine J_iload_n 0 rfl d_Lw_law_496 ?_
                                refine J_iconst (v := 1) rfl d_Lw_law_497 ?_
                                refine J_iadd d_Lw_law_498 ?_
                                refine J_sld rfl d_Lw_law_499 ?_
                                refine J_topi (fun v121 => ?_)
                                refine J_callVi (m_CS_first l g ad _ _) ok_CS_first rc_71 wi_CS_first wl_CS_CS_first wk_Lw_65 ⟨rfl, rfl, Nat.le_of_ble_eq_true rfl, Nat.le_of_ble_eq_true rfl⟩ ⟨Nat.le_of_ble_eq_true rfl, Nat.le_of_ble_eq_true rfl⟩ (rest := []) rfl rfl (Nat.le_of_ble_eq_true rfl) d_Lw_law_500 (fun v122 h123 => ?_)
                                refine J_aload_n 1 rfl d_Lw_law_503 ?_
                                refine J_aload_n 3 rfl d_Lw_law_504 ?_
                                refine J_iload_n 0 rfl d_Lw_law_505 ?_
                                refine J_iconst (v := 1) rfl d_Lw_law_506 ?_
                                refine J_iadd d_Lw_law_507 ?_
                                refine J_sld rfl d_Lw_law_508 ?_
                                refine J_topi (fun v124 => ?_)
                                refine J_callVi (m_Mo_first l g ad _ _) ok_Mo_first rc_34 wi_Mo_first wl_Mo_Mo_first wk_Lw_68 ⟨rfl, rfl, Nat.le_of_ble_eq_true rfl, Nat.le_of_ble_eq_true rfl⟩ ⟨Nat.le_of_ble_eq_true rfl, Nat.le_of_ble_eq_true rfl⟩ (rest := [.int v122]) rfl rfl (Nat.le_of_ble_eq_true rfl) d_Lw_law_509 (fun v125 h126 => ?_)
                                refine J_icmp_eq 1185 rfl d_Lw_law_512 (fun c127 => ?_) (fun c127 => ?_)
                                · refine P_inc (w := 6) (lv' := fun v128 => [(3, .int v128), (2, .ref (ad 34)), (1, .ref (ad 71)), (0, .ref b0)]) 0 rfl rfl (Nat.le_of_ble_eq_true rfl) (fun _ => rfl) d_Lw_law_1185 (fun v128 => ?_)
                                  refine J_goto 18 rfl d_Lw_law_1188 ?_
                                  exact J_sub [0, 1, 2, 3] rfl (ih _ _)
                                · refine J_iconst (v := 0) rfl d_Lw_law_515 ?_
                                  exact J_zret (Nat.le_of_ble_eq_true rfl) (Nat.le_of_ble_eq_true rfl) d_Lw_law_516 rfl (zfit (Or.inl rfl)).1 (fun hx => hx)
                              · refine J_ite (fun c129 => ?_) (fun c129 => ?_)
                                · refine J_tswIn 517 (by rw [c129]; decide) (by rw [c129]; decide) (by rw [c129]; try rfl) rfl d_Lw_law_33 ?_
                                  refine J_aload_n 2 rfl d_Lw_law_517 ?_
                                  refine J_callVi (m_CS_best l g ad _) ok_CS_best rc_71 wi_CS_best wl_CS_CS_best wk_Lw_69 ⟨rfl, rfl, Nat.le_of_ble_eq_true rfl, Nat.le_of_ble_eq_true rfl⟩ ⟨Nat.le_of_ble_eq_true rfl, Nat.le_of_ble_eq_true rfl⟩ (rest := []) rfl rfl (Nat.le_of_ble_eq_true rfl) d_Lw_law_518 (fun v130 h131 => ?_)
                                  refine J_aload_n 1 rfl d_Lw_law_521 ?_
                                  refine J_callVi (m_Mo_best l g ad _) ok_Mo_best rc_34 wi_Mo_best wl_Mo_Mo_best wk_Lw_72 ⟨rfl, rfl, Nat.le_of_ble_eq_true rfl, Nat.le_of_ble_eq_true rfl⟩ ⟨Nat.le_of_ble_eq_true rfl, Nat.le_of_ble_eq_true rfl⟩ (rest := [.int v130]) rfl rfl (Nat.le_of_ble_eq_true rfl) d_Lw_law_522 (fun v132 h133 => ?_)
                                  refine J_icmp_eq 1185 rfl d_Lw_law_525 (fun c134 => ?_) (fun c134 => ?_)
                                  · refine P_inc (w := 6) (lv' := fun v135 => [(3, .int v135), (2, .ref (ad 34)), (1, .ref (ad 71)), (0, .ref b0)]) 0 rfl rfl (Nat.le_of_ble_eq_true rfl) (fun _ => rfl) d_Lw_law_1185 (fun v135 => ?_)
                                    refine J_goto 18 rfl d_Lw_law_1188 ?_
                                    exact J_sub [0, 1, 2, 3] rfl (ih _ _)
                                  · refine J_iconst (v := 0) rfl d_Lw_law_528 ?_
                                    exact J_zret (Nat.le_of_ble_eq_true rfl) (Nat.le_of_ble_eq_true rfl) d_Lw_law_529 rfl (zfit (Or.inl rfl)).1 (fun hx => hx)
                                · refine J_ite (fun c136 => ?_) (fun c136 => ?_)
                                  · refine J_tswIn 530 (by rw [c136]; decide) (by rw [c136]; decide) (by rw [c136]; try rfl) rfl d_Lw_law_33 ?_
                                    refine J_aload_n 2 rfl d_Lw_law_530 ?_
                                    refine J_callVi (m_CS_whole l g ad _) ok_CS_whole rc_71 wi_CS_whole wl_CS_CS_whole wk_Lw_73 ⟨rfl, rfl, Nat.le_of_ble_eq_true rfl, Nat.le_of_ble_eq_true rfl⟩ ⟨Nat.le_of_ble_eq_true rfl, Nat.le_of_ble_eq_true rfl⟩ (rest := []) rfl rfl (Nat.le_of_ble_eq_true rfl) d_Lw_law_531 (fun v137 h138 => ?_)
                                    refine J_aload_n 1 rfl d_Lw_law_534 ?_
                                    refine J_callVi (m_Mo_whole l g ad _) ok_Mo_whole rc_34 wi_Mo_whole wl_Mo_Mo_whole wk_Lw_76 ⟨rfl, rfl, Nat.le_of_ble_eq_true rfl, Nat.le_of_ble_eq_true rfl⟩ ⟨Nat.le_of_ble_eq_true rfl, Nat.le_of_ble_eq_true rfl⟩ (rest := [.int v137]) rfl rfl (Nat.le_of_ble_eq_true rfl) d_Lw_law_535 (fun v139 h140 => ?_)
                                    refine J_icmp_eq 1185 rfl d_Lw_law_538 (fun c141 => ?_) (fun c141 => ?_)
                                    · refine P_inc (w := 6) (lv' := fun v142 => [(3, .int v142), (2, .ref (ad 34)), (1, .ref (ad 71)), (0, .ref b0)]) 0 rfl rfl (Nat.le_of_ble_eq_true rfl) (fun _ => rfl) d_Lw_law_1185 (fun v142 => ?_)
                                      refine J_goto 18 rfl d_Lw_law_1188 ?_
                                      exact J_sub [0, 1, 2, 3] rfl (ih _ _)
                                    · refine J_iconst (v := 0) rfl d_Lw_law_541 ?_
                                      exact J_zret (Nat.le_of_ble_eq_true rfl) (Nat.le_of_ble_eq_true rfl) d_Lw_law_542 rfl (zfit (Or.inl rfl)).1 (fun hx => hx)
                                  · refine J_ite (fun c143 => ?_) (fun c143 => ?_)
                                    · refine J_tswIn 543 (by rw [c143]; decide) (by rw [c143]; decide) (by rw [c143]; try rfl) rfl d_Lw_law_33 ?_
                                      refine J_aload_n 2 rfl d_Lw_law_543 ?_
                                      refine J_callVi (m_CS_tired l g ad _) ok_CS_tired rc_71 wi_CS_tired wl_CS_CS_tired wk_Lw_77 ⟨rfl, rfl, Nat.le_of_ble_eq_true rfl, Nat.le_of_ble_eq_true rfl⟩ ⟨Nat.le_of_ble_eq_true rfl, Nat.le_of_ble_eq_true rfl⟩ (rest := []) rfl rfl (Nat.le_of_ble_eq_true rfl) d_Lw_law_544 (fun v144 h145 => ?_)
                                      refine J_aload_n 1 rfl d_Lw_law_547 ?_
                                      refine J_callVi (m_Mo_tired l g ad _) ok_Mo_tired rc_34 wi_Mo_tired wl_Mo_Mo_tired wk_Lw_80 ⟨rfl, rfl, Nat.le_of_ble_eq_true rfl, Nat.le_of_ble_eq_true rfl⟩ ⟨Nat.le_of_ble_eq_true rfl, Nat.le_of_ble_eq_true rfl⟩ (rest := [.int v144]) rfl rfl (Nat.le_of_ble_eq_true rfl) d_Lw_law_548 (fun v146 h147 => ?_)
                                      refine J_icmp_eq 1185 rfl d_Lw_law_551 (fun c148 => ?_) (fun c148 => ?_)
                                      · refine P_inc (w := 6) (lv' := fun v149 => [(3, .int v149), (2, .ref (ad 34)), (1, .ref (ad 71)), (0, .ref b0)]) 0 rfl rfl (Nat.le_of_ble_eq_true rfl) (fun _ => rfl) d_Lw_law_1185 (fun v149 => ?_)
                                        refine J_goto 18 rfl d_Lw_law_1188 ?_
                                        exact J_sub [0, 1, 2, 3] rfl (ih _ _)
                                      · refine J_iconst (v := 0) rfl d_Lw_law_554 ?_
                                        exact J_zret (Nat.le_of_ble_eq_true rfl) (Nat.le_of_ble_eq_true rfl) d_Lw_law_555 rfl (zfit (Or.inl rfl)).1 (fun hx => hx)
                                    · refine J_ite (fun c150 => ?_) (fun c150 => ?_)
                                      · refine J_tswIn 556 (by rw [c150]; decide) (by rw [c150]; decide) (by rw [c150]; try rfl) rfl d_Lw_law_33 ?_
                                        refine J_aload_n 2 rfl d_Lw_law_556 ?_
                                        refine J_aload_n 3 rfl d_Lw_law_557 ?_
                                        refine J_iload_n 0 rfl d_Lw_law_558 ?_
                                        refine J_iconst (v := 1) rfl d_Lw_law_559 ?_
                                        refine J_iadd d_Lw_law_560 ?_
                                        refine J_sld rfl d_Lw_law_561 ?_
                                        refine J_topi (fun v151 => ?_)
                                        refine J_aload_n 3 rfl d_Lw_law_562 ?_
                                        refine J_iload_n 0 rfl d_Lw_law_563 ?_
                                        refine J_iconst (v := 2) rfl d_Lw_law_564 ?_
                                        refine J_iadd d_Lw_law_565 ?_
                                        refine J_sld rfl d_Lw_law_566 ?_
                                        refine J_topi (fun v152 => ?_)
                                        refine J_callVi (m_CS_last l g ad _ _ _) ok_CS_last rc_71 wi_CS_last wl_CS_CS_last wk_Lw_81 ⟨rfl, rfl, Nat.le_of_ble_eq_true rfl, Nat.le_of_ble_eq_true rfl⟩ ⟨Nat.le_of_ble_eq_true rfl, Nat.le_of_ble_eq_true rfl⟩ (rest := []) rfl rfl (Nat.le_of_ble_eq_true rfl) d_Lw_law_567 (fun v153 h154 => ?_)
                                        refine J_aload_n 1 rfl d_Lw_law_570 ?_
                                        refine J_aload_n 3 rfl d_Lw_law_571 ?_
                                        refine J_iload_n 0 rfl d_Lw_law_572 ?_
                                        refine J_iconst (v := 1) rfl d_Lw_law_573 ?_
                                        refine J_iadd d_Lw_law_574 ?_
                                        refine J_sld rfl d_Lw_law_575 ?_
                                        refine J_topi (fun v155 => ?_)
                                        refine J_aload_n 3 rfl d_Lw_law_576 ?_
                                        refine J_iload_n 0 rfl d_Lw_law_577 ?_
                                        refine J_iconst (v := 2) rfl d_Lw_law_578 ?_
                                        refine J_iadd d_Lw_law_579 ?_
                                        refine J_sld rfl d_Lw_law_580 ?_
                                        refine J_topi (fun v156 => ?_)
                                        refine J_callVi (m_Mo_last l g ad _ _ _) ok_Mo_last rc_34 wi_Mo_last wl_Mo_Mo_last wk_Lw_84 ⟨rfl, rfl, Nat.le_of_ble_eq_true rfl, Nat.le_of_ble_eq_true rfl⟩ ⟨Nat.le_of_ble_eq_true rfl, Nat.le_of_ble_eq_true rfl⟩ (rest := [.int v153]) rfl rfl (Nat.le_of_ble_eq_true rfl) d_Lw_law_581 (fun v157 h158 => ?_)
                                        refine J_icmp_eq 1185 rfl d_Lw_law_584 (fun c159 => ?_) (fun c159 => ?_)
                                        · refine P_inc (w := 6) (lv' := fun v160 => [(3, .int v160), (2, .ref (ad 34)), (1, .ref (ad 71)), (0, .ref b0)]) 0 rfl rfl (Nat.le_of_ble_eq_true rfl) (fun _ => rfl) d_Lw_law_1185 (fun v160 => ?_)
                                          refine J_goto 18 rfl d_Lw_law_1188 ?_
                                          exact J_sub [0, 1, 2, 3] rfl (ih _ _)
                                        · refine J_iconst (v := 0) rfl d_Lw_law_587 ?_
                                          exact J_zret (Nat.le_of_ble_eq_true rfl) (Nat.le_of_ble_eq_true rfl) d_Lw_law_588 rfl (zfit (Or.inl rfl)).1 (fun hx => hx)
                                      · refine J_ite (fun c161 => ?_) (fun c161 => ?_)
                                        · refine J_tswIn 589 (by rw [c161]; decide) (by rw [c161]; decide) (by rw [c161]; try rfl) rfl d_Lw_law_33 ?_
                                          refine J_aload_n 2 rfl d_Lw_law_589 ?_
                                          refine J_aload_n 3 rfl d_Lw_law_590 ?_
                                          refine J_iload_n 0 rfl d_Lw_law_591 ?_
                                          refine J_iconst (v := 1) rfl d_Lw_law_592 ?_
                                          refine J_iadd d_Lw_law_593 ?_
                                          refine J_sld rfl d_Lw_law_594 ?_
                                          refine J_topi (fun v162 => ?_)
                                          refine J_aload_n 3 rfl d_Lw_law_595 ?_
                                          refine J_iload_n 0 rfl d_Lw_law_596 ?_
                                          refine J_iconst (v := 2) rfl d_Lw_law_597 ?_
                                          refine J_iadd d_Lw_law_598 ?_
                                          refine J_sld rfl d_Lw_law_599 ?_
                                          refine J_topi (fun v163 => ?_)
                                          refine J_callVi (m_CS_bear l g ad _ _ _) ok_CS_bear rc_71 wi_CS_bear wl_CS_CS_bear wk_Lw_85 ⟨rfl, rfl, Nat.le_of_ble_eq_true rfl, Nat.le_of_ble_eq_true rfl⟩ ⟨Nat.le_of_ble_eq_true rfl, Nat.le_of_ble_eq_true rfl⟩ (rest := []) rfl rfl (Nat.le_of_ble_eq_true rfl) d_Lw_law_600 (fun v164 h165 => ?_)
                                          refine J_aload_n 1 rfl d_Lw_law_603 ?_
                                          refine J_aload_n 3 rfl d_Lw_law_604 ?_
                                          refine J_iload_n 0 rfl d_Lw_law_605 ?_
                                          refine J_iconst (v := 1) rfl d_Lw_law_606 ?_
                                          refine J_iadd d_Lw_law_607 ?_
                                          refine J_sld rfl d_Lw_law_608 ?_
                                          refine J_topi (fun v166 => ?_)
                                          refine J_aload_n 3 rfl d_Lw_law_609 ?_
                                          refine J_iload_n 0 rfl d_Lw_law_610 ?_
                                          refine J_iconst (v := 2) rfl d_Lw_law_611 ?_
                                          refine J_iadd d_Lw_law_612 ?_
                                          refine J_sld rfl d_Lw_law_613 ?_
                                          refine J_topi (fun v167 => ?_)
                                          refine J_callVi (m_Mo_bear l g ad _ _ _) ok_Mo_bear rc_34 wi_Mo_bear wl_Mo_Mo_bear wk_Lw_88 ⟨rfl, rfl, Nat.le_of_ble_eq_true rfl, Nat.le_of_ble_eq_true rfl⟩ ⟨Nat.le_of_ble_eq_true rfl, Nat.le_of_ble_eq_true rfl⟩ (rest := [.int v164]) rfl rfl (Nat.le_of_ble_eq_true rfl) d_Lw_law_614 (fun v168 h169 => ?_)
                                          refine J_icmp_eq 1185 rfl d_Lw_law_617 (fun c170 => ?_) (fun c170 => ?_)
                                          · refine P_inc (w := 6) (lv' := fun v171 => [(3, .int v171), (2, .ref (ad 34)), (1, .ref (ad 71)), (0, .ref b0)]) 0 rfl rfl (Nat.le_of_ble_eq_true rfl) (fun _ => rfl) d_Lw_law_1185 (fun v171 => ?_)
                                            refine J_goto 18 rfl d_Lw_law_1188 ?_
                                            exact J_sub [0, 1, 2, 3] rfl (ih _ _)
                                          · refine J_iconst (v := 0) rfl d_Lw_law_620 ?_
                                            exact J_zret (Nat.le_of_ble_eq_true rfl) (Nat.le_of_ble_eq_true rfl) d_Lw_law_621 rfl (zfit (Or.inl rfl)).1 (fun hx => hx)
                                        · refine J_ite (fun c172 => ?_) (fun c172 => ?_)
                                          · refine J_tswIn 622 (by rw [c172]; decide) (by rw [c172]; decide) (by rw [c172]; try rfl) rfl d_Lw_law_33 ?_
                                            refine J_aload_n 2 rfl d_Lw_law_622 ?_
                                            refine J_aload_n 3 rfl d_Lw_law_623 ?_
                                            refine J_iload_n 0 rfl d_Lw_law_624 ?_
                                            refine J_iconst (v := 1) rfl d_Lw_law_625 ?_
                                            refine J_iadd d_Lw_law_626 ?_
                                            refine J_sld rfl d_Lw_law_627 ?_
                                            refine J_topi (fun v173 => ?_)
                                            refine J_aload_n 3 rfl d_Lw_law_628 ?_
                                            refine J_iload_n 0 rfl d_Lw_law_629 ?_
                                            refine J_iconst (v := 2) rfl d_Lw_law_630 ?_
                                            refine J_iadd d_Lw_law_631 ?_
                                            refine J_sld rfl d_Lw_law_632 ?_
                                            refine J_topi (fun v174 => ?_)
                                            refine J_callVi (m_CS_when l g ad _ _ _) ok_CS_when rc_71 wi_CS_when wl_CS_CS_when wk_Lw_89 ⟨rfl, rfl, Nat.le_of_ble_eq_true rfl, Nat.le_of_ble_eq_true rfl⟩ ⟨Nat.le_of_ble_eq_true rfl, Nat.le_of_ble_eq_true rfl⟩ (rest := []) rfl rfl (Nat.le_of_ble_eq_true rfl) d_Lw_law_633 (fun v175 h176 => ?_)
                                            refine J_aload_n 1 rfl d_Lw_law_636 ?_
                                            refine J_aload_n 3 rfl d_Lw_law_637 ?_
                                            refine J_iload_n 0 rfl d_Lw_law_638 ?_
                                            refine J_iconst (v := 1) rfl d_Lw_law_639 ?_
                                            refine J_iadd d_Lw_law_640 ?_
                                            refine J_sld rfl d_Lw_law_641 ?_
                                            refine J_topi (fun v177 => ?_)
                                            refine J_aload_n 3 rfl d_Lw_law_642 ?_
                                            refine J_iload_n 0 rfl d_Lw_law_643 ?_
                                            refine J_iconst (v := 2) rfl d_Lw_law_644 ?_
                                            refine J_iadd d_Lw_law_645 ?_
                                            refine J_sld rfl d_Lw_law_646 ?_
                                            refine J_topi (fun v178 => ?_)
                                            refine J_callVi (m_Mo_when l g ad _ _ _) ok_Mo_when rc_34 wi_Mo_when wl_Mo_Mo_when wk_Lw_92 ⟨rfl, rfl, Nat.le_of_ble_eq_true rfl, Nat.le_of_ble_eq_true rfl⟩ ⟨Nat.le_of_ble_eq_true rfl, Nat.le_of_ble_eq_true rfl⟩ (rest := [.int v175]) rfl rfl (Nat.le_of_ble_eq_true rfl) d_Lw_law_647 (fun v179 h180 => ?_)
                                            refine J_icmp_eq 1185 rfl d_Lw_law_650 (fun c181 => ?_) (fun c181 => ?_)
                                            · refine P_inc (w := 6) (lv' := fun v182 => [(3, .int v182), (2, .ref (ad 34)), (1, .ref (ad 71)), (0, .ref b0)]) 0 rfl rfl (Nat.le_of_ble_eq_true rfl) (fun _ => rfl) d_Lw_law_1185 (fun v182 => ?_)
                                              refine J_goto 18 rfl d_Lw_law_1188 ?_
                                              exact J_sub [0, 1, 2, 3] rfl (ih _ _)
                                            · refine J_iconst (v := 0) rfl d_Lw_law_653 ?_
                                              exact J_zret (Nat.le_of_ble_eq_true rfl) (Nat.le_of_ble_eq_true rfl) d_Lw_law_654 rfl (zfit (Or.inl rfl)).1 (fun hx => hx)
                                          · refine J_ite (fun c183 => ?_) (fun c183 => ?_)
                                            · refine J_tswIn 655 (by rw [c183]; decide) (by rw [c183]; decide) (by rw [c183]; try rfl) rfl d_Lw_law_33 ?_
                                              refine J_aload_n 2 rfl d_Lw_law_655 ?_
                                              refine J_aload_n 3 rfl d_Lw_law_656 ?_
                                              refine J_iload_n 0 rfl d_Lw_law_657 ?_
                                              refine J_iconst (v := 1) rfl d_Lw_law_658 ?_
                                              refine J_iadd d_Lw_law_659 ?_
                                              refine J_sld rfl d_Lw_law_660 ?_
                                              refine J_topi (fun v184 => ?_)
                                              refine J_callVi (m_CS_spare l g ad _ _) ok_CS_spare rc_71 wi_CS_spare wl_CS_CS_spare wk_Lw_93 ⟨rfl, rfl, Nat.le_of_ble_eq_true rfl, Nat.le_of_ble_eq_true rfl⟩ ⟨Nat.le_of_ble_eq_true rfl, Nat.le_of_ble_eq_true rfl⟩ (rest := []) rfl rfl (Nat.le_of_ble_eq_true rfl) d_Lw_law_661 (fun v185 h186 => ?_)
                                              refine J_aload_n 1 rfl d_Lw_law_664 ?_
                                              refine J_aload_n 3 rfl d_Lw_law_665 ?_
                                              refine J_iload_n 0 rfl d_Lw_law_666 ?_
                                              refine J_iconst (v := 1) rfl d_Lw_law_667 ?_
                                              refine J_iadd d_Lw_law_668 ?_
                                              refine J_sld rfl d_Lw_law_669 ?_
                                              refine J_topi (fun v187 => ?_)
                                              refine J_callVi (m_Mo_spare l g ad _ _) ok_Mo_spare rc_34 wi_Mo_spare wl_Mo_Mo_spare wk_Lw_96 ⟨rfl, rfl, Nat.le_of_ble_eq_true rfl, Nat.le_of_ble_eq_true rfl⟩ ⟨Nat.le_of_ble_eq_true rfl, Nat.le_of_ble_eq_true rfl⟩ (rest := [.int v185]) rfl rfl (Nat.le_of_ble_eq_true rfl) d_Lw_law_670 (fun v188 h189 => ?_)
                                              refine J_icmp_eq 1185 rfl d_Lw_law_673 (fun c190 => ?_) (fun c190 => ?_)
                                              · refine P_inc (w := 6) (lv' := fun v191 => [(3, .int v191), (2, .ref (ad 34)), (1, .ref (ad 71)), (0, .ref b0)]) 0 rfl rfl (Nat.le_of_ble_eq_true rfl) (fun _ => rfl) d_Lw_law_1185 (fun v191 => ?_)
                                                refine J_goto 18 rfl d_Lw_law_1188 ?_
                                                exact J_sub [0, 1, 2, 3] rfl (ih _ _)
                                              · refine J_iconst (v := 0) rfl d_Lw_law_676 ?_
                                                exact J_zret (Nat.le_of_ble_eq_true rfl) (Nat.le_of_ble_eq_true rfl) d_Lw_law_677 rfl (zfit (Or.inl rfl)).1 (fun hx => hx)
                                            · refine J_ite (fun c192 => ?_) (fun c192 => ?_)
                                              · refine J_tswIn 678 (by rw [c192]; decide) (by rw [c192]; decide) (by rw [c192]; try rfl) rfl d_Lw_law_33 ?_
                                                refine J_aload_n 2 rfl d_Lw_law_678 ?_
                                                refine J_aload_n 3 rfl d_Lw_law_679 ?_
                                                refine J_iload_n 0 rfl d_Lw_law_680 ?_
                                                refine J_iconst (v := 1) rfl d_Lw_law_681 ?_
                                                refine J_iadd d_Lw_law_682 ?_
                                                refine J_sld rfl d_Lw_law_683 ?_
                                                refine J_topi (fun v193 => ?_)
                                                refine J_aload_n 3 rfl d_Lw_law_684 ?_
                                                refine J_iload_n 0 rfl d_Lw_law_685 ?_
                                                refine J_iconst (v := 2) rfl d_Lw_law_686 ?_
                                                refine J_iadd d_Lw_law_687 ?_
                                                refine J_sld rfl d_Lw_law_688 ?_
                                                refine J_topi (fun v194 => ?_)
                                                refine J_aload_n 3 rfl d_Lw_law_689 ?_
                                                refine J_iload_n 0 rfl d_Lw_law_690 ?_
                                                refine J_iconst (v := 3) rfl d_Lw_law_691 ?_
                                                refine J_iadd d_Lw_law_692 ?_
                                                refine J_sld rfl d_Lw_law_693 ?_
                                                refine J_topi (fun v195 => ?_)
                                                refine J_callVi (m_CS_seen l g ad _ _ _ _) ok_CS_seen rc_71 wi_CS_seen wl_CS_CS_seen wk_Lw_97 ⟨rfl, rfl, Nat.le_of_ble_eq_true rfl, Nat.le_of_ble_eq_true rfl⟩ ⟨Nat.le_of_ble_eq_true rfl, Nat.le_of_ble_eq_true rfl⟩ (rest := []) rfl rfl (Nat.le_of_ble_eq_true rfl) d_Lw_law_694 (fun v196 h197 => ?_)
                                                refine J_aload_n 1 rfl d_Lw_law_697 ?_
                                                refine J_aload_n 3 rfl d_Lw_law_698 ?_
                                                refine J_iload_n 0 rfl d_Lw_law_699 ?_
                                                refine J_iconst (v := 1) rfl d_Lw_law_700 ?_
                                                refine J_iadd d_Lw_law_701 ?_
                                                refine J_sld rfl d_Lw_law_702 ?_
                                                refine J_topi (fun v198 => ?_)
                                                refine J_aload_n 3 rfl d_Lw_law_703 ?_
                                                refine J_iload_n 0 rfl d_Lw_law_704 ?_
                                                refine J_iconst (v := 2) rfl d_Lw_law_705 ?_
                                                refine J_iadd d_Lw_law_706 ?_
                                                refine J_sld rfl d_Lw_law_707 ?_
                                                refine J_topi (fun v199 => ?_)
                                                refine J_aload_n 3 rfl d_Lw_law_708 ?_
                                                refine J_iload_n 0 rfl d_Lw_law_709 ?_
                                                refine J_iconst (v := 3) rfl d_Lw_law_710 ?_
                                                refine J_iadd d_Lw_law_711 ?_
                                                refine J_sld rfl d_Lw_law_712 ?_
                                                refine J_topi (fun v200 => ?_)
                                                refine J_callVi (m_Mo_seen l g ad _ _ _ _) ok_Mo_seen rc_34 wi_Mo_seen wl_Mo_Mo_seen wk_Lw_100 ⟨rfl, rfl, Nat.le_of_ble_eq_true rfl, Nat.le_of_ble_eq_true rfl⟩ ⟨Nat.le_of_ble_eq_true rfl, Nat.le_of_ble_eq_true rfl⟩ (rest := [.int v196]) rfl rfl (Nat.le_of_ble_eq_true rfl) d_Lw_law_713 (fun v201 h202 => ?_)
                                                refine J_icmp_eq 1185 rfl d_Lw_law_716 (fun c203 => ?_) (fun c203 => ?_)
                                                · refine P_inc (w := 6) (lv' := fun v204 => [(3, .int v204), (2, .ref (ad 34)), (1, .ref (ad 71)), (0, .ref b0)]) 0 rfl rfl (Nat.le_of_ble_eq_true rfl) (fun _ => rfl) d_Lw_law_1185 (fun v204 => ?_)
                                                  refine J_goto 18 rfl d_Lw_law_1188 ?_
                                                  exact J_sub [0, 1, 2, 3] rfl (ih _ _)
                                                · refine J_iconst (v := 0) rfl d_Lw_law_719 ?_
                                                  exact J_zret (Nat.le_of_ble_eq_true rfl) (Nat.le_of_ble_eq_true rfl) d_Lw_law_720 rfl (zfit (Or.inl rfl)).1 (fun hx => hx)
                                              · refine J_ite (fun c205 => ?_) (fun c205 => ?_)
                                                · refine J_tswIn 721 (by rw [c205]; decide) (by rw [c205]; decide) (by rw [c205]; try rfl) rfl d_Lw_law_33 ?_
                                                  refine J_aload_n 2 rfl d_Lw_law_721 ?_
                                                  refine J_callVi (m_CS_forget l g ad _) ok_CS_forget rc_71 wi_CS_forget wl_CS_CS_forget wk_Lw_101 ⟨rfl, rfl, Nat.le_of_ble_eq_true rfl, Nat.le_of_ble_eq_true rfl⟩ ⟨Nat.le_of_ble_eq_true rfl, Nat.le_of_ble_eq_true rfl⟩ (rest := []) rfl rfl (Nat.le_of_ble_eq_true rfl) d_Lw_law_722 (fun v206 h207 => ?_)
                                                  refine J_aload_n 1 rfl d_Lw_law_725 ?_
                                                  refine J_callVi (m_Mo_forget l g ad _) ok_Mo_forget rc_34 wi_Mo_forget wl_Mo_Mo_forget wk_Lw_104 ⟨rfl, rfl, Nat.le_of_ble_eq_true rfl, Nat.le_of_ble_eq_true rfl⟩ ⟨Nat.le_of_ble_eq_true rfl, Nat.le_of_ble_eq_true rfl⟩ (rest := [.int v206]) rfl rfl (Nat.le_of_ble_eq_true rfl) d_Lw_law_726 (fun v208 h209 => ?_)
                                                  refine J_icmp_eq 1185 rfl d_Lw_law_729 (fun c210 => ?_) (fun c210 => ?_)
                                                  · refine P_inc (w := 6) (lv' := fun v211 => [(3, .int v211), (2, .ref (ad 34)), (1, .ref (ad 71)), (0, .ref b0)]) 0 rfl rfl (Nat.le_of_ble_eq_true rfl) (fun _ => rfl) d_Lw_law_1185 (fun v211 => ?_)
                                                    refine J_goto 18 rfl d_Lw_law_1188 ?_
                                                    exact J_sub [0, 1, 2, 3] rfl (ih _ _)
                                                  · refine J_iconst (v := 0) rfl d_Lw_law_732 ?_
                                                    exact J_zret (Nat.le_of_ble_eq_true rfl) (Nat.le_of_ble_eq_true rfl) d_Lw_law_733 rfl (zfit (Or.inl rfl)).1 (fun hx => hx)
                                                · refine J_ite (fun c212 => ?_) (fun c212 => ?_)
                                                  · refine J_tswIn 734 (by rw [c212]; decide) (by rw [c212]; decide) (by rw [c212]; try rfl) rfl d_Lw_law_33 ?_
                                                    refine J_aload_n 2 rfl d_Lw_law_734 ?_
                                                    refine J_callVi (m_CS_never l g ad _) ok_CS_never rc_71 wi_CS_never wl_CS_CS_never wk_Lw_105 ⟨rfl, rfl, Nat.le_of_ble_eq_true rfl, Nat.le_of_ble_eq_true rfl⟩ ⟨Nat.le_of_ble_eq_true rfl, Nat.le_of_ble_eq_true rfl⟩ (rest := []) rfl rfl (Nat.le_of_ble_eq_true rfl) d_Lw_law_735 (fun v213 h214 => ?_)
                                                    refine J_aload_n 1 rfl d_Lw_law_738 ?_
                                                    refine J_callVi (m_Mo_never l g ad _) ok_Mo_never rc_34 wi_Mo_never wl_Mo_Mo_never wk_Lw_108 ⟨rfl, rfl, Nat.le_of_ble_eq_true rfl, Nat.le_of_ble_eq_true rfl⟩ ⟨Nat.le_of_ble_eq_true rfl, Nat.le_of_ble_eq_true rfl⟩ (rest := [.int v213]) rfl rfl (Nat.le_of_ble_eq_true rfl) d_Lw_law_739 (fun v215 h216 => ?_)
                                                    refine J_icmp_eq 1185 rfl d_Lw_law_742 (fun c217 => ?_) (fun c217 => ?_)
                                                    · refine P_inc (w := 6) (lv' := fun v218 => [(3, .int v218), (2, .ref (ad 34)), (1, .ref (ad 71)), (0, .ref b0)]) 0 rfl rfl (Nat.le_of_ble_eq_true rfl) (fun _ => rfl) d_Lw_law_1185 (fun v218 => ?_)
                                                      refine J_goto 18 rfl d_Lw_law_1188 ?_
                                                      exact J_sub [0, 1, 2, 3] rfl (ih _ _)
                                                    · refine J_iconst (v := 0) rfl d_Lw_law_745 ?_
                                                      exact J_zret (Nat.le_of_ble_eq_true rfl) (Nat.le_of_ble_eq_true rfl) d_Lw_law_746 rfl (zfit (Or.inl rfl)).1 (fun hx => hx)
                                                  · refine J_ite (fun c219 => ?_) (fun c219 => ?_)
                                                    · refine J_tswIn 747 (by rw [c219]; decide) (by rw [c219]; decide) (by rw [c219]; try rfl) rfl d_Lw_law_33 ?_
                                                      refine J_aload_n 2 rfl d_Lw_law_747 ?_
                                                      refine J_aload_n 3 rfl d_Lw_law_748 ?_
                                                      refine J_iload_n 0 rfl d_Lw_law_749 ?_
                                                      refine J_iconst (v := 1) rfl d_Lw_law_750 ?_
                                                      refine J_iadd d_Lw_law_751 ?_
                                                      refine J_sld rfl d_Lw_law_752 ?_
                                                      refine J_topi (fun v220 => ?_)
                                                      refine J_aload_n 3 rfl d_Lw_law_753 ?_
                                                      refine J_iload_n 0 rfl d_Lw_law_754 ?_
                                                      refine J_iconst (v := 2) rfl d_Lw_law_755 ?_
                                                      refine J_iadd d_Lw_law_756 ?_
                                                      refine J_sld rfl d_Lw_law_757 ?_
                                                      refine J_topi (fun v221 => ?_)
                                                      refine J_callVi (m_CS_was l g ad _ _ _) ok_CS_was rc_71 wi_CS_was wl_CS_CS_was wk_Lw_109 ⟨rfl, rfl, Nat.le_of_ble_eq_true rfl, Nat.le_of_ble_eq_true rfl⟩ ⟨Nat.le_of_ble_eq_true rfl, Nat.le_of_ble_eq_true rfl⟩ (rest := []) rfl rfl (Nat.le_of_ble_eq_true rfl) d_Lw_law_758 (fun v222 h223 => ?_)
                                                      refine J_aload_n 1 rfl d_Lw_law_761 ?_
                                                      refine J_aload_n 3 rfl d_Lw_law_762 ?_
                                                      refine J_iload_n 0 rfl d_Lw_law_763 ?_
                                                      refine J_iconst (v := 1) rfl d_Lw_law_764 ?_
                                                      refine J_iadd d_Lw_law_765 ?_
                                                      refine J_sld rfl d_Lw_law_766 ?_
                                                      refine J_topi (fun v224 => ?_)
                                                      refine J_aload_n 3 rfl d_Lw_law_767 ?_
                                                      refine J_iload_n 0 rfl d_Lw_law_768 ?_
                                                      refine J_iconst (v := 2) rfl d_Lw_law_769 ?_
                                                      refine J_iadd d_Lw_law_770 ?_
                                                      refine J_sld rfl d_Lw_law_771 ?_
                                                      refine J_topi (fun v225 => ?_)
                                                      refine J_callVi (m_Mo_was l g ad _ _ _) ok_Mo_was rc_34 wi_Mo_was wl_Mo_Mo_was wk_Lw_112 ⟨rfl, rfl, Nat.le_of_ble_eq_true rfl, Nat.le_of_ble_eq_true rfl⟩ ⟨Nat.le_of_ble_eq_true rfl, Nat.le_of_ble_eq_true rfl⟩ (rest := [.int v222]) rfl rfl (Nat.le_of_ble_eq_true rfl) d_Lw_law_772 (fun v226 h227 => ?_)
                                                      refine J_icmp_eq 1185 rfl d_Lw_law_775 (fun c228 => ?_) (fun c228 => ?_)
                                                      · refine P_inc (w := 6) (lv' := fun v229 => [(3, .int v229), (2, .ref (ad 34)), (1, .ref (ad 71)), (0, .ref b0)]) 0 rfl rfl (Nat.le_of_ble_eq_true rfl) (fun _ => rfl) d_Lw_law_1185 (fun v229 => ?_)
                                                        refine J_goto 18 rfl d_Lw_law_1188 ?_
                                                        exact J_sub [0, 1, 2, 3] rfl (ih _ _)
                                                      · refine J_iconst (v := 0) rfl d_Lw_law_778 ?_
                                                        exact J_zret (Nat.le_of_ble_eq_true rfl) (Nat.le_of_ble_eq_true rfl) d_Lw_law_779 rfl (zfit (Or.inl rfl)).1 (fun hx => hx)
                                                    · refine J_ite (fun c230 => ?_) (fun c230 => ?_)
                                                      · refine J_tswIn 780 (by rw [c230]; decide) (by rw [c230]; decide) (by rw [c230]; try rfl) rfl d_Lw_law_33 ?_
                                                        refine J_aload_n 2 rfl d_Lw_law_780 ?_
                                                        refine J_aload_n 3 rfl d_Lw_law_781 ?_
                                                        refine J_iload_n 0 rfl d_Lw_law_782 ?_
                                                        refine J_iconst (v := 1) rfl d_Lw_law_783 ?_
                                                        refine J_iadd d_Lw_law_784 ?_
                                                        refine J_sld rfl d_Lw_law_785 ?_
                                                        refine J_topi (fun v231 => ?_)
                                                        refine J_callVi (m_CS_ask l g ad _ _) ok_CS_ask rc_71 wi_CS_ask wl_CS_CS_ask wk_Lw_113 ⟨rfl, rfl, Nat.le_of_ble_eq_true rfl, Nat.le_of_ble_eq_true rfl⟩ ⟨Nat.le_of_ble_eq_true rfl, Nat.le_of_ble_eq_true rfl⟩ (rest := []) rfl rfl (Nat.le_of_ble_eq_true rfl) d_Lw_law_786 (fun v232 h233 => ?_)
                                                        refine J_aload_n 1 rfl d_Lw_law_789 ?_
                                                        refine J_aload_n 3 rfl d_Lw_law_790 ?_
                                                        refine J_iload_n 0 rfl d_Lw_law_791 ?_
                                                        refine J_iconst (v := 1) rfl d_Lw_law_792 ?_
                                                        refine J_iadd d_Lw_law_793 ?_
                                                        refine J_sld rfl d_Lw_law_794 ?_
                                                        refine J_topi (fun v234 => ?_)
                                                        refine J_callVi (m_Mo_ask l g ad _ _) ok_Mo_ask rc_34 wi_Mo_ask wl_Mo_Mo_ask wk_Lw_116 ⟨rfl, rfl, Nat.le_of_ble_eq_true rfl, Nat.le_of_ble_eq_true rfl⟩ ⟨Nat.le_of_ble_eq_true rfl, Nat.le_of_ble_eq_true rfl⟩ (rest := [.int v232]) rfl rfl (Nat.le_of_ble_eq_true rfl) d_Lw_law_795 (fun v235 h236 => ?_)
                                                        refine J_icmp_eq 1185 rfl d_Lw_law_798 (fun c237 => ?_) (fun c237 => ?_)
                                                        · refine P_inc (w := 6) (lv' := fun v238 => [(3, .int v238), (2, .ref (ad 34)), (1, .ref (ad 71)), (0, .ref b0)]) 0 rfl rfl (Nat.le_of_ble_eq_true rfl) (fun _ => rfl) d_Lw_law_1185 (fun v238 => ?_)
                                                          refine J_goto 18 rfl d_Lw_law_1188 ?_
                                                          exact J_sub [0, 1, 2, 3] rfl (ih _ _)
                                                        · refine J_iconst (v := 0) rfl d_Lw_law_801 ?_
                                                          exact J_zret (Nat.le_of_ble_eq_true rfl) (Nat.le_of_ble_eq_true rfl) d_Lw_law_802 rfl (zfit (Or.inl rfl)).1 (fun hx => hx)
                                                      · refine J_ite (fun c239 => ?_) (fun c239 => ?_)
                                                        · refine J_tswIn 803 (by rw [c239]; decide) (by rw [c239]; decide) (by rw [c239]; try rfl) rfl d_Lw_law_33 ?_
                                                          refine J_aload_n 2 rfl d_Lw_law_803 ?_
                                                          refine J_aload_n 3 rfl d_Lw_law_804 ?_
                                                          refine J_iload_n 0 rfl d_Lw_law_805 ?_
                                                          refine J_iconst (v := 1) rfl d_Lw_law_806 ?_
                                                          refine J_iadd d_Lw_law_807 ?_
                                                          refine J_sld rfl d_Lw_law_808 ?_
                                                          refine J_topi (fun v240 => ?_)
                                                          refine J_aload_n 3 rfl d_Lw_law_809 ?_
                                                          refine J_iload_n 0 rfl d_Lw_law_810 ?_
                                                          refine J_iconst (v := 2) rfl d_Lw_law_811 ?_
                                                          refine J_iadd d_Lw_law_812 ?_
                                                          refine J_sld rfl d_Lw_law_813 ?_
                                                          refine J_topi (fun v241 => ?_)
                                                          refine J_aload_n 3 rfl d_Lw_law_814 ?_
                                                          refine J_iload_n 0 rfl d_Lw_law_815 ?_
                                                          refine J_iconst (v := 3) rfl d_Lw_law_816 ?_
                                                          refine J_iadd d_Lw_law_817 ?_
                                                          refine J_sld rfl d_Lw_law_818 ?_
                                                          refine J_topi (fun v242 => ?_)
                                                          refine J_callVl (m_CS_chance l g ad _ _ _ _) ok_CS_chance rc_71 wi_CS_chance wl_CS_CS_chance wk_Lw_117 ⟨rfl, rfl, Nat.le_of_ble_eq_true rfl, Nat.le_of_ble_eq_true rfl⟩ ⟨Nat.le_of_ble_eq_true rfl, Nat.le_of_ble_eq_true rfl⟩ (rest := []) rfl rfl (Nat.le_of_ble_eq_true rfl) d_Lw_law_819 (fun v243 h244 => ?_)
                                                          refine J_aload_n 1 rfl d_Lw_law_822 ?_
                                                          refine J_aload_n 3 rfl d_Lw_law_823 ?_
                                                          refine J_iload_n 0 rfl d_Lw_law_824 ?_
                                                          refine J_iconst (v := 1) rfl d_Lw_law_825 ?_
                                                          refine J_iadd d_Lw_law_826 ?_
                                                          refine J_sld rfl d_Lw_law_827 ?_
                                                          refine J_topi (fun v245 => ?_)
                                                          refine J_aload_n 3 rfl d_Lw_law_828 ?_
                                                          refine J_iload_n 0 rfl d_Lw_law_829 ?_
                                                          refine J_iconst (v := 2) rfl d_Lw_law_830 ?_
                                                          refine J_iadd d_Lw_law_831 ?_
                                                          refine J_sld rfl d_Lw_law_832 ?_
                                                          refine J_topi (fun v246 => ?_)
                                                          refine J_aload_n 3 rfl d_Lw_law_833 ?_
                                                          refine J_iload_n 0 rfl d_Lw_law_834 ?_
                                                          refine J_iconst (v := 3) rfl d_Lw_law_835 ?_
                                                          refine J_iadd d_Lw_law_836 ?_
                                                          refine J_sld rfl d_Lw_law_837 ?_
                                                          refine J_topi (fun v247 => ?_)
                                                          refine J_callVl (m_Mo_chance l g ad _ _ _ _) ok_Mo_chance rc_34 wi_Mo_chance wl_Mo_Mo_chance wk_Lw_121 ⟨rfl, rfl, Nat.le_of_ble_eq_true rfl, Nat.le_of_ble_eq_true rfl⟩ ⟨Nat.le_of_ble_eq_true rfl, Nat.le_of_ble_eq_true rfl⟩ (rest := [.long v243]) rfl rfl (Nat.le_of_ble_eq_true rfl) d_Lw_law_838 (fun v248 h249 => ?_)
                                                          refine J_lcmp d_Lw_law_841 ?_
                                                          refine J_if_eq 1185 rfl d_Lw_law_842 (fun c250 => ?_) (fun c250 => ?_)
                                                          · refine P_inc (w := 6) (lv' := fun v251 => [(3, .int v251), (2, .ref (ad 34)), (1, .ref (ad 71)), (0, .ref b0)]) 0 rfl rfl (Nat.le_of_ble_eq_true rfl) (fun _ => rfl) d_Lw_law_1185 (fun v251 => ?_)
                                                            refine J_goto 18 rfl d_Lw_law_1188 ?_
                                                            exact J_sub [0, 1, 2, 3] rfl (ih _ _)
                                                          · refine J_iconst (v := 0) rfl d_Lw_law_845 ?_
                                                            exact J_zret (Nat.le_of_ble_eq_true rfl) (Nat.le_of_ble_eq_true rfl) d_Lw_law_846 rfl (zfit (Or.inl rfl)).1 (fun hx => hx)
                                                        · refine J_ite (fun c252 => ?_) (fun c252 => ?_)
                                                          · refine J_tswIn 847 (by rw [c252]; decide) (by rw [c252]; decide) (by rw [c252]; try rfl) rfl d_Lw_law_33 ?_
                                                            refine J_aload_n 2 rfl d_Lw_law_847 ?_
                                                            refine J_aload_n 3 rfl d_Lw_law_848 ?_
                                                            refine J_iload_n 0 rfl d_Lw_law_849 ?_
                                                            refine J_iconst (v := 1) rfl d_Lw_law_850 ?_
                                                            refine J_iadd d_Lw_law_851 ?_
                                                            refine J_sld rfl d_Lw_law_852 ?_
                                                            refine J_topi (fun v253 => ?_)
                                                            refine J_aload_n 3 rfl d_Lw_law_853 ?_
                                                            refine J_iload_n 0 rfl d_Lw_law_854 ?_
                                                            refine J_iconst (v := 2) rfl d_Lw_law_855 ?_
                                                            refine J_iadd d_Lw_law_856 ?_
                                                            refine J_sld rfl d_Lw_law_857 ?_
                                                            refine J_topi (fun v254 => ?_)
                                                            refine J_aload_n 3 rfl d_Lw_law_858 ?_
                                                            refine J_iload_n 0 rfl d_Lw_law_859 ?_
                                                            refine J_iconst (v := 3) rfl d_Lw_law_860 ?_
                                                            refine J_iadd d_Lw_law_861 ?_
                                                            refine J_sld rfl d_Lw_law_862 ?_
                                                            refine J_topi (fun v255 => ?_)
                                                            refine J_callVi (m_CS_years l g ad _ _ _ _) ok_CS_years rc_71 wi_CS_years wl_CS_CS_years wk_Lw_122 ⟨rfl, rfl, Nat.le_of_ble_eq_true rfl, Nat.le_of_ble_eq_true rfl⟩ ⟨Nat.le_of_ble_eq_true rfl, Nat.le_of_ble_eq_true rfl⟩ (rest := []) rfl rfl (Nat.le_of_ble_eq_true rfl) d_Lw_law_863 (fun v256 h257 => ?_)
                                                            refine J_aload_n 1 rfl d_Lw_law_866 ?_
                                                            refine J_aload_n 3 rfl d_Lw_law_867 ?_
                                                            refine J_iload_n 0 rfl d_Lw_law_868 ?_
                                                            refine J_iconst (v := 1) rfl d_Lw_law_869 ?_
                                                            refine J_iadd d_Lw_law_870 ?_
                                                            refine J_sld rfl d_Lw_law_871 ?_
                                                            refine J_topi (fun v258 => ?_)
                                                            refine J_aload_n 3 rfl d_Lw_law_872 ?_
                                                            refine J_iload_n 0 rfl d_Lw_law_873 ?_
                                                            refine J_iconst (v := 2) rfl d_Lw_law_874 ?_
                                                            refine J_iadd d_Lw_law_875 ?_
                                                            refine J_sld rfl d_Lw_law_876 ?_
                                                            refine J_topi (fun v259 => ?_)
                                                            refine J_aload_n 3 rfl d_Lw_law_877 ?_
                                                            refine J_iload_n 0 rfl d_Lw_law_878 ?_
                                                            refine J_iconst (v := 3) rfl d_Lw_law_879 ?_
                                                            refine J_iadd d_Lw_law_880 ?_
                                                            refine J_sld rfl d_Lw_law_881 ?_
                                                            refine J_topi (fun v260 => ?_)
                                                            refine J_callVi (m_Mo_years l g ad _ _ _ _) ok_Mo_years rc_34 wi_Mo_years wl_Mo_Mo_years wk_Lw_125 ⟨rfl, rfl, Nat.le_of_ble_eq_true rfl, Nat.le_of_ble_eq_true rfl⟩ ⟨Nat.le_of_ble_eq_true rfl, Nat.le_of_ble_eq_true rfl⟩ (rest := [.int v256]) rfl rfl (Nat.le_of_ble_eq_true rfl) d_Lw_law_882 (fun v261 h262 => ?_)
                                                            refine J_icmp_eq 1185 rfl d_Lw_law_885 (fun c263 => ?_) (fun c263 => ?_)
                                                            · refine P_inc (w := 6) (lv' := fun v264 => [(3, .int v264), (2, .ref (ad 34)), (1, .ref (ad 71)), (0, .ref b0)]) 0 rfl rfl (Nat.le_of_ble_eq_true rfl) (fun _ => rfl) d_Lw_law_1185 (fun v264 => ?_)
                                                              refine J_goto 18 rfl d_Lw_law_1188 ?_
                                                              exact J_sub [0, 1, 2, 3] rfl (ih _ _)
                                                            · refine J_iconst (v := 0) rfl d_Lw_law_888 ?_
                                                              exact J_zret (Nat.le_of_ble_eq_true rfl) (Nat.le_of_ble_eq_true rfl) d_Lw_law_889 rfl (zfit (Or.inl rfl)).1 (fun hx => hx)
                                                          · refine J_ite (fun c265 => ?_) (fun c265 => ?_)
                                                            · refine J_tswIn 890 (by rw [c265]; decide) (by rw [c265]; decide) (by rw [c265]; try rfl) rfl d_Lw_law_33 ?_
                                                              refine J_aload_n 2 rfl d_Lw_law_890 ?_
                                                              refine J_aload_n 3 rfl d_Lw_law_891 ?_
                                                              refine J_iload_n 0 rfl d_Lw_law_892 ?_
                                                              refine J_iconst (v := 1) rfl d_Lw_law_893 ?_
                                                              refine J_iadd d_Lw_law_894 ?_
                                                              refine J_sld rfl d_Lw_law_895 ?_
                                                              refine J_topi (fun v266 => ?_)
                                                              refine J_aload_n 3 rfl d_Lw_law_896 ?_
                                                              refine J_iload_n 0 rfl d_Lw_law_897 ?_
                                                              refine J_iconst (v := 2) rfl d_Lw_law_898 ?_
                                                              refine J_iadd d_Lw_law_899 ?_
                                                              refine J_sld rfl d_Lw_law_900 ?_
                                                              refine J_topi (fun v267 => ?_)
                                                              refine J_aload_n 3 rfl d_Lw_law_901 ?_
                                                              refine J_iload_n 0 rfl d_Lw_law_902 ?_
                                                              refine J_iconst (v := 3) rfl d_Lw_law_903 ?_
                                                              refine J_iadd d_Lw_law_904 ?_
                                                              refine J_sld rfl d_Lw_law_905 ?_
                                                              refine J_topi (fun v268 => ?_)
                                                              refine J_callVi (m_CS_sheet l g ad _ _ _ _) ok_CS_sheet rc_71 wi_CS_sheet wl_CS_CS_sheet wk_Lw_126 ⟨rfl, rfl, Nat.le_of_ble_eq_true rfl, Nat.le_of_ble_eq_true rfl⟩ ⟨Nat.le_of_ble_eq_true rfl, Nat.le_of_ble_eq_true rfl⟩ (rest := []) rfl rfl (Nat.le_of_ble_eq_true rfl) d_Lw_law_906 (fun v269 h270 => ?_)
                                                              refine J_aload_n 1 rfl d_Lw_law_909 ?_
                                                              refine J_aload_n 3 rfl d_Lw_law_910 ?_
                                                              refine J_iload_n 0 rfl d_Lw_law_911 ?_
                                                              refine J_iconst (v := 1) rfl d_Lw_law_912 ?_
                                                              refine J_iadd d_Lw_law_913 ?_
                                                              refine J_sld rfl d_Lw_law_914 ?_
                                                              refine J_topi (fun v271 => ?_)
                                                              refine J_aload_n 3 rfl d_Lw_law_915 ?_
                                                              refine J_iload_n 0 rfl d_Lw_law_916 ?_
                                                              refine J_iconst (v := 2) rfl d_Lw_law_917 ?_
                                                              refine J_iadd d_Lw_law_918 ?_
                                                              refine J_sld rfl d_Lw_law_919 ?_
                                                              refine J_topi (fun v272 => ?_)
                                                              refine J_aload_n 3 rfl d_Lw_law_920 ?_
                                                              refine J_iload_n 0 rfl d_Lw_law_921 ?_
                                                              refine J_iconst (v := 3) rfl d_Lw_law_922 ?_
                                                              refine J_iadd d_Lw_law_923 ?_
                                                              refine J_sld rfl d_Lw_law_924 ?_
                                                              refine J_topi (fun v273 => ?_)
                                                              refine J_callVi (m_Mo_sheet l g ad _ _ _ _) ok_Mo_sheet rc_34 wi_Mo_sheet wl_Mo_Mo_sheet wk_Lw_129 ⟨rfl, rfl, Nat.le_of_ble_eq_true rfl, Nat.le_of_ble_eq_true rfl⟩ ⟨Nat.le_of_ble_eq_true rfl, Nat.le_of_ble_eq_true rfl⟩ (rest := [.int v269]) rfl rfl (Nat.le_of_ble_eq_true rfl) d_Lw_law_925 (fun v274 h275 => ?_)
                                                              refine J_icmp_eq 1185 rfl d_Lw_law_928 (fun c276 => ?_) (fun c276 => ?_)
                                                              · refine P_inc (w := 6) (lv' := fun v277 => [(3, .int v277), (2, .ref (ad 34)), (1, .ref (ad 71)), (0, .ref b0)]) 0 rfl rfl (Nat.le_of_ble_eq_true rfl) (fun _ => rfl) d_Lw_law_1185 (fun v277 => ?_)
                                                                refine J_goto 18 rfl d_Lw_law_1188 ?_
                                                                exact J_sub [0, 1, 2, 3] rfl (ih _ _)
                                                              · refine J_iconst (v := 0) rfl d_Lw_law_931 ?_
                                                                exact J_zret (Nat.le_of_ble_eq_true rfl) (Nat.le_of_ble_eq_true rfl) d_Lw_law_932 rfl (zfit (Or.inl rfl)).1 (fun hx => hx)
                                                            · refine J_ite (fun c278 => ?_) (fun c278 => ?_)
                                                              · refine J_tswIn 933 (by rw [c278]; decide) (by rw [c278]; decide) (by rw [c278]; try rfl) rfl d_Lw_law_33 ?_
                                                                refine J_aload_n 2 rfl d_Lw_law_933 ?_
                                                                refine J_aload_n 3 rfl d_Lw_law_934 ?_
                                                                refine J_iload_n 0 rfl d_Lw_law_935 ?_
                                                                refine J_iconst (v := 1) rfl d_Lw_law_936 ?_
                                                                refine J_iadd d_Lw_law_937 ?_
                                                                refine J_sld rfl d_Lw_law_938 ?_
                                                                refine J_topi (fun v279 => ?_)
                                                                refine J_callVi (m_CS_lose l g ad _ _) ok_CS_lose rc_71 wi_CS_lose wl_CS_CS_lose wk_Lw_130 ⟨rfl, rfl, Nat.le_of_ble_eq_true rfl, Nat.le_of_ble_eq_true rfl⟩ ⟨Nat.le_of_ble_eq_true rfl, Nat.le_of_ble_eq_true rfl⟩ (rest := []) rfl rfl (Nat.le_of_ble_eq_true rfl) d_Lw_law_939 (fun v280 h281 => ?_)
                                                                refine J_aload_n 1 rfl d_Lw_law_942 ?_
                                                                refine J_aload_n 3 rfl d_Lw_law_943 ?_
                                                                refine J_iload_n 0 rfl d_Lw_law_944 ?_
                                                                refine J_iconst (v := 1) rfl d_Lw_law_945 ?_
                                                                refine J_iadd d_Lw_law_946 ?_
                                                                refine J_sld rfl d_Lw_law_947 ?_
                                                                refine J_topi (fun v282 => ?_)
                                                                refine J_callVi (m_Mo_lose l g ad _ _) ok_Mo_lose rc_34 wi_Mo_lose wl_Mo_Mo_lose wk_Lw_133 ⟨rfl, rfl, Nat.le_of_ble_eq_true rfl, Nat.le_of_ble_eq_true rfl⟩ ⟨Nat.le_of_ble_eq_true rfl, Nat.le_of_ble_eq_true rfl⟩ (rest := [.int v280]) rfl rfl (Nat.le_of_ble_eq_true rfl) d_Lw_law_948 (fun v283 h284 => ?_)
                                                                refine J_icmp_eq 1185 rfl d_Lw_law_951 (fun c285 => ?_) (fun c285 => ?_)
                                                                · refine P_inc (w := 6) (lv' := fun v286 => [(3, .int v286), (2, .ref (ad 34)), (1, .ref (ad 71)), (0, .ref b0)]) 0 rfl rfl (Nat.le_of_ble_eq_true rfl) (fun _ => rfl) d_Lw_law_1185 (fun v286 => ?_)
                                                                  refine J_goto 18 rfl d_Lw_law_1188 ?_
                                                                  exact J_sub [0, 1, 2, 3] rfl (ih _ _)
                                                                · refine J_iconst (v := 0) rfl d_Lw_law_954 ?_
                                                                  exact J_zret (Nat.le_of_ble_eq_true rfl) (Nat.le_of_ble_eq_true rfl) d_Lw_law_955 rfl (zfit (Or.inl rfl)).1 (fun hx => hx)
                                                              · refine J_ite (fun c287 => ?_) (fun c287 => ?_)
                                                                · refine J_tswIn 956 (by rw [c287]; decide) (by rw [c287]; decide) (by rw [c287]; try rfl) rfl d_Lw_law_33 ?_
                                                                  refine J_aload_n 2 rfl d_Lw_law_956 ?_
                                                                  refine J_aload_n 3 rfl d_Lw_law_957 ?_
                                                                  refine J_iload_n 0 rfl d_Lw_law_958 ?_
                                                                  refine J_iconst (v := 1) rfl d_Lw_law_959 ?_
                                                                  refine J_iadd d_Lw_law_960 ?_
                                                                  refine J_sld rfl d_Lw_law_961 ?_
                                                                  refine J_topi (fun v288 => ?_)
                                                                  refine J_aload_n 3 rfl d_Lw_law_962 ?_
                                                                  refine J_iload_n 0 rfl d_Lw_law_963 ?_
                                                                  refine J_iconst (v := 2) rfl d_Lw_law_964 ?_
                                                                  refine J_iadd d_Lw_law_965 ?_
                                                                  refine J_sld rfl d_Lw_law_966 ?_
                                                                  refine J_topi (fun v289 => ?_)
                                                                  refine J_aload_n 3 rfl d_Lw_law_967 ?_
                                                                  refine J_iload_n 0 rfl d_Lw_law_968 ?_
                                                                  refine J_iconst (v := 3) rfl d_Lw_law_969 ?_
                                                                  refine J_iadd d_Lw_law_970 ?_
                                                                  refine J_sld rfl d_Lw_law_971 ?_
                                                                  refine J_topi (fun v290 => ?_)
                                                                  refine J_aload_n 3 rfl d_Lw_law_972 ?_
                                                                  refine J_iload_n 0 rfl d_Lw_law_973 ?_
                                                                  refine J_iconst (v := 4) rfl d_Lw_law_974 ?_
                                                                  refine J_iadd d_Lw_law_975 ?_
                                                                  refine J_sld rfl d_Lw_law_976 ?_
                                                                  refine J_topi (fun v291 => ?_)
                                                                  refine J_callVi (m_CS_put l g ad _ _ _ _ _) ok_CS_put rc_71 wi_CS_put wl_CS_CS_put wk_Lw_134 ⟨rfl, rfl, Nat.le_of_ble_eq_true rfl, Nat.le_of_ble_eq_true rfl⟩ ⟨Nat.le_of_ble_eq_true rfl, Nat.le_of_ble_eq_true rfl⟩ (rest := []) rfl rfl (Nat.le_of_ble_eq_true rfl) d_Lw_law_977 (fun v292 h293 => ?_)
                                                                  refine J_aload_n 1 rfl d_Lw_law_980 ?_
                                                                  refine J_aload_n 3 rfl d_Lw_law_981 ?_
                                                                  refine J_iload_n 0 rfl d_Lw_law_982 ?_
                                                                  refine J_iconst (v := 1) rfl d_Lw_law_983 ?_
                                                                  refine J_iadd d_Lw_law_984 ?_
                                                                  refine J_sld rfl d_Lw_law_985 ?_
                                                                  refine J_topi (fun v294 => ?_)
                                                                  refine J_aload_n 3 rfl d_Lw_law_986 ?_
                                                                  refine J_iload_n 0 rfl d_Lw_law_987 ?_
                                                                  refine J_iconst (v := 2) rfl d_Lw_law_988 ?_
                                                                  refine J_iadd d_Lw_law_989 ?_
                                                                  refine J_sld rfl d_Lw_law_990 ?_
                                                                  refine J_topi (fun v295 => ?_)
                                                                  refine J_aload_n 3 rfl d_Lw_law_991 ?_
                                                                  refine J_iload_n 0 rfl d_Lw_law_992 ?_
                                                                  refine J_iconst (v := 3) rfl d_Lw_law_993 ?_
                                                                  refine J_iadd d_Lw_law_994 ?_
                                                                  refine J_sld rfl d_Lw_law_995 ?_
                                                                  refine J_topi (fun v296 => ?_)
                                                                  refine J_aload_n 3 rfl d_Lw_law_996 ?_
                                                                  refine J_iload_n 0 rfl d_Lw_law_997 ?_
                                                                  refine J_iconst (v := 4) rfl d_Lw_law_998 ?_
                                                                  refine J_iadd d_Lw_law_999 ?_
                                                                  refine J_sld rfl d_Lw_law_1000 ?_
                                                                  refine J_topi (fun v297 => ?_)
                                                                  refine J_callVi (m_Mo_put l g ad _ _ _ _ _) ok_Mo_put rc_34 wi_Mo_put wl_Mo_Mo_put wk_Lw_138 ⟨rfl, rfl, Nat.le_of_ble_eq_true rfl, Nat.le_of_ble_eq_true rfl⟩ ⟨Nat.le_of_ble_eq_true rfl, Nat.le_of_ble_eq_true rfl⟩ (rest := [.int v292]) rfl rfl (Nat.le_of_ble_eq_true rfl) d_Lw_law_1001 (fun v298 h299 => ?_)
                                                                  refine J_icmp_eq 1185 rfl d_Lw_law_1004 (fun c300 => ?_) (fun c300 => ?_)
                                                                  · refine P_inc (w := 6) (lv' := fun v301 => [(3, .int v301), (2, .ref (ad 34)), (1, .ref (ad 71)), (0, .ref b0)]) 0 rfl rfl (Nat.le_of_ble_eq_true rfl) (fun _ => rfl) d_Lw_law_1185 (fun v301 => ?_)
                                                                    refine J_goto 18 rfl d_Lw_law_1188 ?_
                                                                    exact J_sub [0, 1, 2, 3] rfl (ih _ _)
                                                                  · refine J_iconst (v := 0) rfl d_Lw_law_1007 ?_
                                                                    exact J_zret (Nat.le_of_ble_eq_true rfl) (Nat.le_of_ble_eq_true rfl) d_Lw_law_1008 rfl (zfit (Or.inl rfl)).1 (fun hx => hx)
                                                                · refine J_ite (fun c302 => ?_) (fun c302 => ?_)
                                                                  · refine J_tswIn 1009 (by rw [c302]; decide) (by rw [c302]; decide) (by rw [c302]; try rfl) rfl d_Lw_law_33 ?_
                                                                    refine J_aload_n 2 rfl d_Lw_law_1009 ?_
                                                                    refine J_aload_n 3 rfl d_Lw_law_1010 ?_
                                                                    refine J_iload_n 0 rfl d_Lw_law_1011 ?_
                                                                    refine J_iconst (v := 1) rfl d_Lw_law_1012 ?_
                                                                    refine J_iadd d_Lw_law_1013 ?_
                                                                    refine J_sld rfl d_Lw_law_1014 ?_
                                                                    refine J_topi (fun v303 => ?_)
                                                                    refine J_aload_n 3 rfl d_Lw_law_1015 ?_
                                                                    refine J_iload_n 0 rfl d_Lw_law_1016 ?_
                                                                    refine J_iconst (v := 2) rfl d_Lw_law_1017 ?_
                                                                    refine J_iadd d_Lw_law_1018 ?_
                                                                    refine J_sld rfl d_Lw_law_1019 ?_
                                                                    refine J_topi (fun v304 => ?_)
                                                                    refine J_aload_n 3 rfl d_Lw_law_1020 ?_
                                                                    refine J_iload_n 0 rfl d_Lw_law_1021 ?_
                                                                    refine J_iconst (v := 3) rfl d_Lw_law_1022 ?_
                                                                    refine J_iadd d_Lw_law_1023 ?_
                                                                    refine J_sld rfl d_Lw_law_1024 ?_
                                                                    refine J_topi (fun v305 => ?_)
                                                                    refine J_callVi (m_CS_get l g ad _ _ _ _) ok_CS_get rc_71 wi_CS_get wl_CS_CS_get wk_Lw_139 ⟨rfl, rfl, Nat.le_of_ble_eq_true rfl, Nat.le_of_ble_eq_true rfl⟩ ⟨Nat.le_of_ble_eq_true rfl, Nat.le_of_ble_eq_true rfl⟩ (rest := []) rfl rfl (Nat.le_of_ble_eq_true rfl) d_Lw_law_1025 (fun v306 h307 => ?_)
                                                                    refine J_aload_n 1 rfl d_Lw_law_1028 ?_
                                                                    refine J_aload_n 3 rfl d_Lw_law_1029 ?_
                                                                    refine J_iload_n 0 rfl d_Lw_law_1030 ?_
                                                                    refine J_iconst (v := 1) rfl d_Lw_law_1031 ?_
                                                                    refine J_iadd d_Lw_law_1032 ?_
                                                                    refine J_sld rfl d_Lw_law_1033 ?_
                                                                    refine J_topi (fun v308 => ?_)
                                                                    refine J_aload_n 3 rfl d_Lw_law_1034 ?_
                                                                    refine J_iload_n 0 rfl d_Lw_law_1035 ?_
                                                                    refine J_iconst (v := 2) rfl d_Lw_law_1036 ?_
                                                                    refine J_iadd d_Lw_law_1037 ?_
                                                                    refine J_sld rfl d_Lw_law_1038 ?_
                                                                    refine J_topi (fun v309 => ?_)
                                                                    refine J_aload_n 3 rfl d_Lw_law_1039 ?_
                                                                    refine J_iload_n 0 rfl d_Lw_law_1040 ?_
                                                                    refine J_iconst (v := 3) rfl d_Lw_law_1041 ?_
                                                                    refine J_iadd d_Lw_law_1042 ?_
                                                                    refine J_sld rfl d_Lw_law_1043 ?_
                                                                    refine J_topi (fun v310 => ?_)
                                                                    refine J_callVi (m_Mo_get l g ad _ _ _ _) ok_Mo_get rc_34 wi_Mo_get wl_Mo_Mo_get wk_Lw_142 ⟨rfl, rfl, Nat.le_of_ble_eq_true rfl, Nat.le_of_ble_eq_true rfl⟩ ⟨Nat.le_of_ble_eq_true rfl, Nat.le_of_ble_eq_true rfl⟩ (rest := [.int v306]) rfl rfl (Nat.le_of_ble_eq_true rfl) d_Lw_law_1044 (fun v311 h312 => ?_)
                                                                    refine J_icmp_eq 1185 rfl d_Lw_law_1047 (fun c313 => ?_) (fun c313 => ?_)
                                                                    · refine P_inc (w := 6) (lv' := fun v314 => [(3, .int v314), (2, .ref (ad 34)), (1, .ref (ad 71)), (0, .ref b0)]) 0 rfl rfl (Nat.le_of_ble_eq_true rfl) (fun _ => rfl) d_Lw_law_1185 (fun v314 => ?_)
                                                                      refine J_goto 18 rfl d_Lw_law_1188 ?_
                                                                      exact J_sub [0, 1, 2, 3] rfl (ih _ _)
                                                                    · refine J_iconst (v := 0) rfl d_Lw_law_1050 ?_
                                                                      exact J_zret (Nat.le_of_ble_eq_true rfl) (Nat.le_of_ble_eq_true rfl) d_Lw_law_1051 rfl (zfit (Or.inl rfl)).1 (fun hx => hx)
                                                                  · refine J_ite (fun c315 => ?_) (fun c315 => ?_)
                                                                    · refine J_tswIn 1052 (by rw [c315]; decide) (by rw [c315]; decide) (by rw [c315]; try rfl) rfl d_Lw_law_33 ?_
                                                                      refine J_aload_n 2 rfl d_Lw_law_1052 ?_
                                                                      refine J_aload_n 3 rfl d_Lw_law_1053 ?_
                                                                      refine J_iload_n 0 rfl d_Lw_law_1054 ?_
                                                                      refine J_iconst (v := 1) rfl d_Lw_law_1055 ?_
                                                                      refine J_iadd d_Lw_law_1056 ?_
                                                                      refine J_sld rfl d_Lw_law_1057 ?_
                                                                      refine J_topi (fun v316 => ?_)
                                                                      refine J_aload_n 3 rfl d_Lw_law_1058 ?_
                                                                      refine J_iload_n 0 rfl d_Lw_law_1059 ?_
                                                                      refine J_iconst (v := 2) rfl d_Lw_law_1060 ?_
                                                                      refine J_iadd d_Lw_law_1061 ?_
                                                                      refine J_sld rfl d_Lw_law_1062 ?_
                                                                      refine J_topi (fun v317 => ?_)
                                                                      refine J_aload_n 3 rfl d_Lw_law_1063 ?_
                                                                      refine J_iload_n 0 rfl d_Lw_law_1064 ?_
                                                                      refine J_iconst (v := 3) rfl d_Lw_law_1065 ?_
                                                                      refine J_iadd d_Lw_law_1066 ?_
                                                                      refine J_sld rfl d_Lw_law_1067 ?_
                                                                      refine J_topi (fun v318 => ?_)
                                                                      refine J_aload_n 3 rfl d_Lw_law_1068 ?_
                                                                      refine J_iload_n 0 rfl d_Lw_law_1069 ?_
                                                                      refine J_iconst (v := 4) rfl d_Lw_law_1070 ?_
                                                                      refine J_iadd d_Lw_law_1071 ?_
                                                                      refine J_sld rfl d_Lw_law_1072 ?_
                                                                      refine J_topi (fun v319 => ?_)
                                                                      refine J_aload_n 3 rfl d_Lw_law_1073 ?_
                                                                      refine J_iload_n 0 rfl d_Lw_law_1074 ?_
                                                                      refine J_iconst (v := 5) rfl d_Lw_law_1075 ?_
                                                                      refine J_iadd d_Lw_law_1076 ?_
                                                                      refine J_sld rfl d_Lw_law_1077 ?_
                                                                      refine J_topi (fun v320 => ?_)
                                                                      refine J_callVi (m_CS_copy l g ad _ _ _ _ _ _) ok_CS_copy rc_71 wi_CS_copy wl_CS_CS_copy wk_Lw_143 ⟨rfl, rfl, Nat.le_of_ble_eq_true rfl, Nat.le_of_ble_eq_true rfl⟩ ⟨Nat.le_of_ble_eq_true rfl, Nat.le_of_ble_eq_true rfl⟩ (rest := []) rfl rfl (Nat.le_of_ble_eq_true rfl) d_Lw_law_1078 (fun v321 h322 => ?_)
                                                                      refine J_aload_n 1 rfl d_Lw_law_1081 ?_
                                                                      refine J_aload_n 3 rfl d_Lw_law_1082 ?_
                                                                      refine J_iload_n 0 rfl d_Lw_law_1083 ?_
                                                                      refine J_iconst (v := 1) rfl d_Lw_law_1084 ?_
                                                                      refine J_iadd d_Lw_law_1085 ?_
                                                                      refine J_sld rfl d_Lw_law_1086 ?_
                                                                      refine J_topi (fun v323 => ?_)
                                                                      refine J_aload_n 3 rfl d_Lw_law_1087 ?_
                                                                      refine J_iload_n 0 rfl d_Lw_law_1088 ?_
                                                                      refine J_iconst (v := 2) rfl d_Lw_law_1089 ?_
                                                                      refine J_iadd d_Lw_law_1090 ?_
                                                                      refine J_sld rfl d_Lw_law_1091 ?_
                                                                      refine J_topi (fun v324 => ?_)
                                                                      refine J_aload_n 3 rfl d_Lw_law_1092 ?_
                                                                      refine J_iload_n 0 rfl d_Lw_law_1093 ?_
                                                                      refine J_iconst (v := 3) rfl d_Lw_law_1094 ?_
                                                                      refine J_iadd d_Lw_law_1095 ?_
                                                                      refine J_sld rfl d_Lw_law_1096 ?_
                                                                      refine J_topi (fun v325 => ?_)
                                                                      refine J_aload_n 3 rfl d_Lw_law_1097 ?_
                                                                      refine J_iload_n 0 rfl d_Lw_law_1098 ?_
                                                                      refine J_iconst (v := 4) rfl d_Lw_law_1099 ?_
                                                                      refine J_iadd d_Lw_law_1100 ?_
                                                                      refine J_sld rfl d_Lw_law_1101 ?_
                                                                      refine J_topi (fun v326 => ?_)
                                                                      refine J_aload_n 3 rfl d_Lw_law_1102 ?_
                                                                      refine J_iload_n 0 rfl d_Lw_law_1103 ?_
                                                                      refine J_iconst (v := 5) rfl d_Lw_law_1104 ?_
                                                                      refine J_iadd d_Lw_law_1105 ?_
                                                                      refine J_sld rfl d_Lw_law_1106 ?_
                                                                      refine J_topi (fun v327 => ?_)
                                                                      refine J_callVi (m_Mo_copy l g ad _ _ _ _ _ _) ok_Mo_copy rc_34 wi_Mo_copy wl_Mo_Mo_copy wk_Lw_147 ⟨rfl, rfl, Nat.le_of_ble_eq_true rfl, Nat.le_of_ble_eq_true rfl⟩ ⟨Nat.le_of_ble_eq_true rfl, Nat.le_of_ble_eq_true rfl⟩ (rest := [.int v321]) rfl rfl (Nat.le_of_ble_eq_true rfl) d_Lw_law_1107 (fun v328 h329 => ?_)
                                                                      refine J_icmp_eq 1185 rfl d_Lw_law_1110 (fun c330 => ?_) (fun c330 => ?_)
                                                                      · refine P_inc (w := 6) (lv' := fun v331 => [(3, .int v331), (2, .ref (ad 34)), (1, .ref (ad 71)), (0, .ref b0)]) 0 rfl rfl (Nat.le_of_ble_eq_true rfl) (fun _ => rfl) d_Lw_law_1185 (fun v331 => ?_)
                                                                        refine J_goto 18 rfl d_Lw_law_1188 ?_
                                                                        exact J_sub [0, 1, 2, 3] rfl (ih _ _)
                                                                      · refine J_iconst (v := 0) rfl d_Lw_law_1113 ?_
                                                                        exact J_zret (Nat.le_of_ble_eq_true rfl) (Nat.le_of_ble_eq_true rfl) d_Lw_law_1114 rfl (zfit (Or.inl rfl)).1 (fun hx => hx)
                                                                    · refine J_ite (fun c332 => ?_) (fun c332 => ?_)
                                                                      · refine J_tswIn 1115 (by rw [c332]; decide) (by rw [c332]; decide) (by rw [c332]; try rfl) rfl d_Lw_law_33 ?_
                                                                        refine J_aload_n 2 rfl d_Lw_law_1115 ?_
                                                                        refine J_aload_n 3 rfl d_Lw_law_1116 ?_
                                                                        refine J_iload_n 0 rfl d_Lw_law_1117 ?_
                                                                        refine J_iconst (v := 1) rfl d_Lw_law_1118 ?_
                                                                        refine J_iadd d_Lw_law_1119 ?_
                                                                        refine J_sld rfl d_Lw_law_1120 ?_
                                                                        refine J_topi (fun v333 => ?_)
                                                                        refine J_aload_n 3 rfl d_Lw_law_1121 ?_
                                                                        refine J_iload_n 0 rfl d_Lw_law_1122 ?_
                                                                        refine J_iconst (v := 2) rfl d_Lw_law_1123 ?_
                                                                        refine J_iadd d_Lw_law_1124 ?_
                                                                        refine J_sld rfl d_Lw_law_1125 ?_
                                                                        refine J_topi (fun v334 => ?_)
                                                                        refine J_callVi (m_CS_write l g ad _ _ _) ok_CS_write rc_71 wi_CS_write wl_CS_CS_write wk_Lw_148 ⟨rfl, rfl, Nat.le_of_ble_eq_true rfl, Nat.le_of_ble_eq_true rfl⟩ ⟨Nat.le_of_ble_eq_true rfl, Nat.le_of_ble_eq_true rfl⟩ (rest := []) rfl rfl (Nat.le_of_ble_eq_true rfl) d_Lw_law_1126 (fun v335 h336 => ?_)
                                                                        refine J_aload_n 1 rfl d_Lw_law_1129 ?_
                                                                        refine J_aload_n 3 rfl d_Lw_law_1130 ?_
                                                                        refine J_iload_n 0 rfl d_Lw_law_1131 ?_
                                                                        refine J_iconst (v := 1) rfl d_Lw_law_1132 ?_
                                                                        refine J_iadd d_Lw_law_1133 ?_
                                                                        refine J_sld rfl d_Lw_law_1134 ?_
                                                                        refine J_topi (fun v337 => ?_)
                                                                        refine J_aload_n 3 rfl d_Lw_law_1135 ?_
                                                                        refine J_iload_n 0 rfl d_Lw_law_1136 ?_
                                                                        refine J_iconst (v := 2) rfl d_Lw_law_1137 ?_
                                                                        refine J_iadd d_Lw_law_1138 ?_
                                                                        refine J_sld rfl d_Lw_law_1139 ?_
                                                                        refine J_topi (fun v338 => ?_)
                                                                        refine J_callVi (m_Mo_write l g ad _ _ _) ok_Mo_write rc_34 wi_Mo_write wl_Mo_Mo_write wk_Lw_151 ⟨rfl, rfl, Nat.le_of_ble_eq_true rfl, Nat.le_of_ble_eq_true rfl⟩ ⟨Nat.le_of_ble_eq_true rfl, Nat.le_of_ble_eq_true rfl⟩ (rest := [.int v335]) rfl rfl (Nat.le_of_ble_eq_true rfl) d_Lw_law_1140 (fun v339 h340 => ?_)
                                                                        refine J_icmp_eq 1185 rfl d_Lw_law_1143 (fun c341 => ?_) (fun c341 => ?_)
                                                                        · refine P_inc (w := 6) (lv' := fun v342 => [(3, .int v342), (2, .ref (ad 34)), (1, .ref (ad 71)), (0, .ref b0)]) 0 rfl rfl (Nat.le_of_ble_eq_true rfl) (fun _ => rfl) d_Lw_law_1185 (fun v342 => ?_)
                                                                          refine J_goto 18 rfl d_Lw_law_1188 ?_
                                                                          exact J_sub [0, 1, 2, 3] rfl (ih _ _)
                                                                        · refine J_iconst (v := 0) rfl d_Lw_law_1146 ?_
                                                                          exact J_zret (Nat.le_of_ble_eq_true rfl) (Nat.le_of_ble_eq_true rfl) d_Lw_law_1147 rfl (zfit (Or.inl rfl)).1 (fun hx => hx)
                                                                      · refine J_ite (fun c343 => ?_) (fun c343 => ?_)
                                                                        · refine J_tswIn 1148 (by rw [c343]; decide) (by rw [c343]; decide) (by rw [c343]; try rfl) rfl d_Lw_law_33 ?_
                                                                          refine J_aload_n 2 rfl d_Lw_law_1148 ?_
                                                                          refine J_aload_n 3 rfl d_Lw_law_1149 ?_
                                                                          refine J_iload_n 0 rfl d_Lw_law_1150 ?_
                                                                          refine J_iconst (v := 1) rfl d_Lw_law_1151 ?_
                                                                          refine J_iadd d_Lw_law_1152 ?_
                                                                          refine J_sld rfl d_Lw_law_1153 ?_
                                                                          refine J_topi (fun v344 => ?_)
                                                                          refine J_callVi (m_CS_count l g ad _ _) ok_CS_count rc_71 wi_CS_count wl_CS_CS_count wk_Lw_152 ⟨rfl, rfl, Nat.le_of_ble_eq_true rfl, Nat.le_of_ble_eq_true rfl⟩ ⟨Nat.le_of_ble_eq_true rfl, Nat.le_of_ble_eq_true rfl⟩ (rest := []) rfl rfl (Nat.le_of_ble_eq_true rfl) d_Lw_law_1154 (fun v345 h346 => ?_)
                                                                          refine J_aload_n 1 rfl d_Lw_law_1157 ?_
                                                                          refine J_aload_n 3 rfl d_Lw_law_1158 ?_
                                                                          refine J_iload_n 0 rfl d_Lw_law_1159 ?_
                                                                          refine J_iconst (v := 1) rfl d_Lw_law_1160 ?_
                                                                          refine J_iadd d_Lw_law_1161 ?_
                                                                          refine J_sld rfl d_Lw_law_1162 ?_
                                                                          refine J_topi (fun v347 => ?_)
                                                                          refine J_callVi (m_Mo_count l g ad _ _) ok_Mo_count rc_34 wi_Mo_count wl_Mo_Mo_count wk_Lw_155 ⟨rfl, rfl, Nat.le_of_ble_eq_true rfl, Nat.le_of_ble_eq_true rfl⟩ ⟨Nat.le_of_ble_eq_true rfl, Nat.le_of_ble_eq_true rfl⟩ (rest := [.int v345]) rfl rfl (Nat.le_of_ble_eq_true rfl) d_Lw_law_1163 (fun v348 h349 => ?_)
                                                                          refine J_icmp_eq 1185 rfl d_Lw_law_1166 (fun c350 => ?_) (fun c350 => ?_)
                                                                          · refine P_inc (w := 6) (lv' := fun v351 => [(3, .int v351), (2, .ref (ad 34)), (1, .ref (ad 71)), (0, .ref b0)]) 0 rfl rfl (Nat.le_of_ble_eq_true rfl) (fun _ => rfl) d_Lw_law_1185 (fun v351 => ?_)
                                                                            refine J_goto 18 rfl d_Lw_law_1188 ?_
                                                                            exact J_sub [0, 1, 2, 3] rfl (ih _ _)
                                                                          · refine J_iconst (v := 0) rfl d_Lw_law_1169 ?_
                                                                            exact J_zret (Nat.le_of_ble_eq_true rfl) (Nat.le_of_ble_eq_true rfl) d_Lw_law_1170 rfl (zfit (Or.inl rfl)).1 (fun hx => hx)
                                                                        · refine J_ite (fun c352 => ?_) (fun c352 => ?_)
                                                                          · refine J_tswIn 1171 (by rw [c352]; decide) (by rw [c352]; decide) (by rw [c352]; try rfl) rfl d_Lw_law_33 ?_
                                                                            refine J_aload_n 2 rfl d_Lw_law_1171 ?_
                                                                            refine J_callVl (m_CS_digest l g ad _) ok_CS_digest rc_71 wi_CS_digest wl_CS_CS_digest wk_Lw_156 ⟨rfl, rfl, Nat.le_of_ble_eq_true rfl, Nat.le_of_ble_eq_true rfl⟩ ⟨Nat.le_of_ble_eq_true rfl, Nat.le_of_ble_eq_true rfl⟩ (rest := []) rfl rfl (Nat.le_of_ble_eq_true rfl) d_Lw_law_1172 (fun v353 h354 => ?_)
                                                                            refine J_aload_n 1 rfl d_Lw_law_1175 ?_
                                                                            refine J_callVl (m_Mo_digest l g ad _) ok_Mo_digest rc_34 wi_Mo_digest wl_Mo_Mo_digest wk_Lw_160 ⟨rfl, rfl, Nat.le_of_ble_eq_true rfl, Nat.le_of_ble_eq_true rfl⟩ ⟨Nat.le_of_ble_eq_true rfl, Nat.le_of_ble_eq_true rfl⟩ (rest := [.long v353]) rfl rfl (Nat.le_of_ble_eq_true rfl) d_Lw_law_1176 (fun v355 h356 => ?_)
                                                                            refine J_lcmp d_Lw_law_1179 ?_
                                                                            refine J_if_eq 1185 rfl d_Lw_law_1180 (fun c357 => ?_) (fun c357 => ?_)
                                                                            · refine P_inc (w := 6) (lv' := fun v358 => [(3, .int v358), (2, .ref (ad 34)), (1, .ref (ad 71)), (0, .ref b0)]) 0 rfl rfl (Nat.le_of_ble_eq_true rfl) (fun _ => rfl) d_Lw_law_1185 (fun v358 => ?_)
                                                                              refine J_goto 18 rfl d_Lw_law_1188 ?_
                                                                              exact J_sub [0, 1, 2, 3] rfl (ih _ _)
                                                                            · refine J_iconst (v := 0) rfl d_Lw_law_1183 ?_
                                                                              exact J_zret (Nat.le_of_ble_eq_true rfl) (Nat.le_of_ble_eq_true rfl) d_Lw_law_1184 rfl (zfit (Or.inl rfl)).1 (fun hx => hx)
                                                                          · refine J_tswOut 1185 (by have e0 := lv_neT (a := 0) c6 rfl; have e1 := lv_neT (a := 1) c17 rfl; have e2 := lv_neT (a := 2) c26 rfl; have e3 := lv_neT (a := 3) c35 rfl; have e4 := lv_neT (a := 4) c44 rfl; have e5 := lv_neT (a := 5) c55 rfl; have e6 := lv_neT (a := 6) c66 rfl; have e7 := lv_neT (a := 7) c77 rfl; have e8 := lv_neT (a := 8) c84 rfl; have e9 := lv_neT (a := 9) c93 rfl; have e10 := lv_neT (a := 10) c106 rfl; have e11 := lv_neT (a := 11) c113 rfl; have e12 := lv_neT (a := 12) c120 rfl; have e13 := lv_neT (a := 13) c129 rfl; have e14 := lv_neT (a := 14) c136 rfl; have e15 := lv_neT (a := 15) c143 rfl; have e16 := lv_neT (a := 16) c150 rfl; have e17 := lv_neT (a := 17) c161 rfl; have e18 := lv_neT (a := 18) c172 rfl; have e19 := lv_neT (a := 19) c183 rfl; have e20 := lv_neT (a := 20) c192 rfl; have e21 := lv_neT (a := 21) c205 rfl; have e22 := lv_neT (a := 22) c212 rfl; have e23 := lv_neT (a := 23) c219 rfl; have e24 := lv_neT (a := 24) c230 rfl; have e25 := lv_neT (a := 25) c239 rfl; have e26 := lv_neT (a := 26) c252 rfl; have e27 := lv_neT (a := 27) c265 rfl; have e28 := lv_neT (a := 28) c278 rfl; have e29 := lv_neT (a := 29) c287 rfl; have e30 := lv_neT (a := 30) c302 rfl; have e31 := lv_neT (a := 31) c315 rfl; have e32 := lv_neT (a := 32) c332 rfl; have e33 := lv_neT (a := 33) c343 rfl; have e34 := lv_neT (a := 34) c352 rfl; omega) rfl d_Lw_law_33 ?_
                                                                            refine P_inc (w := 6) (lv' := fun v359 => [(3, .int v359), (2, .ref (ad 34)), (1, .ref (ad 71)), (0, .ref b0)]) 0 rfl rfl (Nat.le_of_ble_eq_true rfl) (fun _ => rfl) d_Lw_law_1185 (fun v359 => ?_)
                                                                            refine J_goto 18 rfl d_Lw_law_1188 ?_
                                                                            exact J_sub [0, 1, 2, 3] rfl (ih _ _)
set_option maxRecDepth 20000 in
set_option maxHeartbeats 4000000 in
theorem m_law (l : Launch) (g : GG) (ad : Nat → Nat) (Q : Option Value → va_W → Prop) (b0 L0 : Nat) (xs0 : Nat → Int32) (h0 : HP) : Jj (fun a : Int32 × HP => Q (enI a).1 (pic g ad (enI a).2)) (f_law L0 xs0 h0) (Vw (kx_Lw_law l g b0 L0 xs0 Q) 72 2969 16 [(2, .ref (ad 34)), (1, .ref (ad 71)), (0, .ref b0)] [] (pic g ad h0)) := by
  unfold f_law
  refine J_iconst (v := 0) rfl d_Lw_law_16 ?_
  refine J_istore_n (lv' := [(3, .int 0), (2, .ref (ad 34)), (1, .ref (ad 71)), (0, .ref b0)]) 3 rfl (Nat.le_of_ble_eq_true rfl) rfl d_Lw_law_17 ?_
  exact J_sub [0, 1, 2, 3] rfl (mlp_Lw_law_18 l g ad Q b0 L0 xs0 400 _ _)
