abbrev c_Pieces_clear : ByteArray := prog_5_method_2_code
abbrev y_Pieces_clear : MethodName := { cls := "SkeletonTree$Pieces", name := "clear", desc := "()V" }
abbrev c_Pieces_place : ByteArray := prog_5_method_3_code
abbrev y_Pieces_place : MethodName := { cls := "SkeletonTree$Pieces", name := "place", desc := "(IIII)V" }
abbrev c_Pieces_otherSide : ByteArray := prog_5_method_4_code
abbrev y_Pieces_otherSide : MethodName := { cls := "SkeletonTree$Pieces", name := "otherSide", desc := "(I)I" }
abbrev c_Pieces_linkPiece : ByteArray := prog_5_method_9_code
abbrev y_Pieces_linkPiece : MethodName := { cls := "SkeletonTree$Pieces", name := "linkPiece", desc := "(I)V" }
abbrev c_Pieces_splitOff : ByteArray := prog_5_method_8_code
abbrev y_Pieces_splitOff : MethodName := { cls := "SkeletonTree$Pieces", name := "splitOff", desc := "(III)V" }
abbrev c_Pieces_splitAt : ByteArray := prog_5_method_7_code
abbrev y_Pieces_splitAt : MethodName := { cls := "SkeletonTree$Pieces", name := "splitAt", desc := "(III)V" }
abbrev c_Pieces_comeApartFrom : ByteArray := prog_5_method_6_code
abbrev y_Pieces_comeApartFrom : MethodName := { cls := "SkeletonTree$Pieces", name := "comeApartFrom", desc := "(I)V" }
abbrev c_Pieces_kindByPoints : ByteArray := prog_5_method_10_code
abbrev y_Pieces_kindByPoints : MethodName := { cls := "SkeletonTree$Pieces", name := "kindByPoints", desc := "()I" }
abbrev c_Pieces_comeApartWholly : ByteArray := prog_5_method_5_code
abbrev y_Pieces_comeApartWholly : MethodName := { cls := "SkeletonTree$Pieces", name := "comeApartWholly", desc := "()V" }
abbrev c_Pieces_moveAll : ByteArray := prog_5_method_12_code
abbrev y_Pieces_moveAll : MethodName := { cls := "SkeletonTree$Pieces", name := "moveAll", desc := "(II)V" }
abbrev c_Pieces_uniteRings : ByteArray := prog_5_method_11_code
abbrev y_Pieces_uniteRings : MethodName := { cls := "SkeletonTree$Pieces", name := "uniteRings", desc := "()V" }
theorem g_104 : (Jvm.Cond.fieldLink "SkeletonTree$Pieces" (18 : Nat) "SkeletonTree$Pieces" "home" "[I") ∈ GW := gw_of 104 (by decide +kernel) (by decide +kernel)
theorem g_286 : (Jvm.Cond.code ({ cls := "java/util/Arrays", name := "fill", desc := "([II)V" } : Jvm.MethodName) prog_17_method_103_code (4 : Nat) (Option.none : Option Jvm.ClassFile.FieldType)) ∈ GW := gw_of 286 (by decide +kernel) (by decide +kernel)
theorem g_284 : (Jvm.Cond.methodLink "SkeletonTree$Pieces" (41 : Nat) ({ cls := "java/util/Arrays", name := "fill", desc := "([II)V" } : Jvm.MethodName)) ∈ GW := gw_of 284 (by decide +kernel) (by decide +kernel)
theorem g_285 : (Jvm.Cond.static ({ cls := "java/util/Arrays", name := "fill", desc := "([II)V" } : Jvm.MethodName)) ∈ GW := gw_of 285 (by decide +kernel) (by decide +kernel)
theorem g_111 : (Jvm.Cond.fieldLink "SkeletonTree$Pieces" (34 : Nat) "SkeletonTree$Pieces" "slots" "I") ∈ GW := gw_of 111 (by decide +kernel) (by decide +kernel)
theorem g_114 : (Jvm.Cond.fieldLink "SkeletonTree$Pieces" (38 : Nat) "SkeletonTree$Pieces" "count" "I") ∈ GW := gw_of 114 (by decide +kernel) (by decide +kernel)
theorem g_100 : (Jvm.Cond.fieldLink "SkeletonTree$Pieces" (9 : Nat) "SkeletonTree$Pieces" "firstEnd" "[I") ∈ GW := gw_of 100 (by decide +kernel) (by decide +kernel)
theorem g_102 : (Jvm.Cond.fieldLink "SkeletonTree$Pieces" (15 : Nat) "SkeletonTree$Pieces" "secondEnd" "[I") ∈ GW := gw_of 102 (by decide +kernel) (by decide +kernel)
theorem g_110 : (Jvm.Cond.fieldLink "SkeletonTree$Pieces" (30 : Nat) "SkeletonTree$Pieces" "links" "LSkeletonTree$Links;") ∈ GW := gw_of 110 (by decide +kernel) (by decide +kernel)
theorem g_250 : (Jvm.Cond.code ({ cls := "SkeletonTree$Links", name := "clear", desc := "()V" } : Jvm.MethodName) prog_2_method_2_code (1 : Nat) (Option.none : Option Jvm.ClassFile.FieldType)) ∈ GW := gw_of 250 (by decide +kernel) (by decide +kernel)
theorem g_303 : (Jvm.Cond.methodLink "SkeletonTree$Pieces" (91 : Nat) ({ cls := "SkeletonTree$Links", name := "clear", desc := "()V" } : Jvm.MethodName)) ∈ GW := gw_of 303 (by decide +kernel) (by decide +kernel)
theorem g_248 : (Jvm.Cond.instanceMethod ({ cls := "SkeletonTree$Links", name := "clear", desc := "()V" } : Jvm.MethodName)) ∈ GW := gw_of 248 (by decide +kernel) (by decide +kernel)
theorem g_249 : (Jvm.Cond.selects "SkeletonTree$Links" ({ cls := "SkeletonTree$Links", name := "clear", desc := "()V" } : Jvm.MethodName) ({ cls := "SkeletonTree$Links", name := "clear", desc := "()V" } : Jvm.MethodName)) ∈ GW := gw_of 249 (by decide +kernel) (by decide +kernel)
theorem g_257 : (Jvm.Cond.code ({ cls := "SkeletonTree$Links", name := "link", desc := "(II)V" } : Jvm.MethodName) prog_2_method_3_code (3 : Nat) (Option.none : Option Jvm.ClassFile.FieldType)) ∈ GW := gw_of 257 (by decide +kernel) (by decide +kernel)
theorem g_304 : (Jvm.Cond.methodLink "SkeletonTree$Pieces" (94 : Nat) ({ cls := "SkeletonTree$Links", name := "link", desc := "(II)V" } : Jvm.MethodName)) ∈ GW := gw_of 304 (by decide +kernel) (by decide +kernel)
theorem g_255 : (Jvm.Cond.instanceMethod ({ cls := "SkeletonTree$Links", name := "link", desc := "(II)V" } : Jvm.MethodName)) ∈ GW := gw_of 255 (by decide +kernel) (by decide +kernel)
theorem g_256 : (Jvm.Cond.selects "SkeletonTree$Links" ({ cls := "SkeletonTree$Links", name := "link", desc := "(II)V" } : Jvm.MethodName) ({ cls := "SkeletonTree$Links", name := "link", desc := "(II)V" } : Jvm.MethodName)) ∈ GW := gw_of 256 (by decide +kernel) (by decide +kernel)
theorem g_80 : (Jvm.Cond.fieldLink "SkeletonTree$Pieces" (58 : Nat) "SkeletonTree$Links" "present" "J") ∈ GW := gw_of 80 (by decide +kernel) (by decide +kernel)
theorem g_322 : (Jvm.Cond.methodLinkNest "SkeletonTree$Pieces" (77 : Nat) ({ cls := "SkeletonTree", name := "only", desc := "(I)J" } : Jvm.MethodName) "SkeletonTree") ∈ NW := nw_of 322 (by decide +kernel) (by decide +kernel)
theorem g_323 : (Jvm.Cond.constantLong "SkeletonTree$Pieces" (81 : Nat) (-1 : Int64)) ∈ GW := gw_of 323 (by decide +kernel) (by decide +kernel)
theorem g_324 : (Jvm.Cond.methodLink "SkeletonTree$Pieces" (83 : Nat) ({ cls := "SkeletonTree$Links", name := "reach", desc := "(J)J" } : Jvm.MethodName)) ∈ GW := gw_of 324 (by decide +kernel) (by decide +kernel)
theorem g_109 : (Jvm.Cond.fieldLink "SkeletonTree$Pieces" (24 : Nat) "SkeletonTree$Pieces" "startAt" "[I") ∈ GW := gw_of 109 (by decide +kernel) (by decide +kernel)
theorem g_305 : (Jvm.Cond.methodLinkNest "SkeletonTree$Pieces" (62 : Nat) ({ cls := "SkeletonTree", name := "holds", desc := "(JI)Z" } : Jvm.MethodName) "SkeletonTree") ∈ NW := nw_of 305 (by decide +kernel) (by decide +kernel)
theorem g_290 : (Jvm.Cond.code ({ cls := "SkeletonTree$Pieces", name := "place", desc := "(IIII)V" } : Jvm.MethodName) prog_5_method_3_code (5 : Nat) (Option.none : Option Jvm.ClassFile.FieldType)) ∈ GW := gw_of 290 (by decide +kernel) (by decide +kernel)
theorem g_325 : (Jvm.Cond.methodLink "SkeletonTree$Pieces" (87 : Nat) ({ cls := "SkeletonTree$Pieces", name := "place", desc := "(IIII)V" } : Jvm.MethodName)) ∈ GW := gw_of 325 (by decide +kernel) (by decide +kernel)
theorem g_49 : (Jvm.Cond.initialized "SkeletonTree$Pieces") ∈ GW := gw_of 49 (by decide +kernel) (by decide +kernel)
theorem g_288 : (Jvm.Cond.instanceMethod ({ cls := "SkeletonTree$Pieces", name := "place", desc := "(IIII)V" } : Jvm.MethodName)) ∈ GW := gw_of 288 (by decide +kernel) (by decide +kernel)
theorem g_289 : (Jvm.Cond.selects "SkeletonTree$Pieces" ({ cls := "SkeletonTree$Pieces", name := "place", desc := "(IIII)V" } : Jvm.MethodName) ({ cls := "SkeletonTree$Pieces", name := "place", desc := "(IIII)V" } : Jvm.MethodName)) ∈ GW := gw_of 289 (by decide +kernel) (by decide +kernel)
theorem g_316 : (Jvm.Cond.code ({ cls := "SkeletonTree$Links", name := "comeApartAt", desc := "(II)Z" } : Jvm.MethodName) prog_2_method_6_code (5 : Nat) (Option.some Jvm.ClassFile.FieldType.boolean)) ∈ GW := gw_of 316 (by decide +kernel) (by decide +kernel)
theorem g_313 : (Jvm.Cond.methodLink "SkeletonTree$Pieces" (70 : Nat) ({ cls := "SkeletonTree$Links", name := "comeApartAt", desc := "(II)Z" } : Jvm.MethodName)) ∈ GW := gw_of 313 (by decide +kernel) (by decide +kernel)
theorem g_314 : (Jvm.Cond.instanceMethod ({ cls := "SkeletonTree$Links", name := "comeApartAt", desc := "(II)Z" } : Jvm.MethodName)) ∈ GW := gw_of 314 (by decide +kernel) (by decide +kernel)
theorem g_315 : (Jvm.Cond.selects "SkeletonTree$Links" ({ cls := "SkeletonTree$Links", name := "comeApartAt", desc := "(II)Z" } : Jvm.MethodName) ({ cls := "SkeletonTree$Links", name := "comeApartAt", desc := "(II)Z" } : Jvm.MethodName)) ∈ GW := gw_of 315 (by decide +kernel) (by decide +kernel)
theorem g_321 : (Jvm.Cond.code ({ cls := "SkeletonTree$Pieces", name := "splitOff", desc := "(III)V" } : Jvm.MethodName) prog_5_method_8_code (8 : Nat) (Option.none : Option Jvm.ClassFile.FieldType)) ∈ GW := gw_of 321 (by decide +kernel) (by decide +kernel)
theorem g_318 : (Jvm.Cond.methodLink "SkeletonTree$Pieces" (74 : Nat) ({ cls := "SkeletonTree$Pieces", name := "splitOff", desc := "(III)V" } : Jvm.MethodName)) ∈ GW := gw_of 318 (by decide +kernel) (by decide +kernel)
theorem g_320 : (Jvm.Cond.instanceMethod ({ cls := "SkeletonTree$Pieces", name := "splitOff", desc := "(III)V" } : Jvm.MethodName)) ∈ GW := gw_of 320 (by decide +kernel) (by decide +kernel)
theorem g_5 : (Jvm.Cond.selects "SkeletonTree$Pieces" ({ cls := "SkeletonTree$Pieces", name := "splitOff", desc := "(III)V" } : Jvm.MethodName) ({ cls := "SkeletonTree$Pieces", name := "splitOff", desc := "(III)V" } : Jvm.MethodName)) ∈ GW := gw_of 5 (by decide +kernel) (by decide +kernel)
theorem g_302 : (Jvm.Cond.code ({ cls := "SkeletonTree$Pieces", name := "linkPiece", desc := "(I)V" } : Jvm.MethodName) prog_5_method_9_code (3 : Nat) (Option.none : Option Jvm.ClassFile.FieldType)) ∈ GW := gw_of 302 (by decide +kernel) (by decide +kernel)
theorem g_299 : (Jvm.Cond.methodLink "SkeletonTree$Pieces" (55 : Nat) ({ cls := "SkeletonTree$Pieces", name := "linkPiece", desc := "(I)V" } : Jvm.MethodName)) ∈ GW := gw_of 299 (by decide +kernel) (by decide +kernel)
theorem g_301 : (Jvm.Cond.instanceMethod ({ cls := "SkeletonTree$Pieces", name := "linkPiece", desc := "(I)V" } : Jvm.MethodName)) ∈ GW := gw_of 301 (by decide +kernel) (by decide +kernel)
theorem g_3 : (Jvm.Cond.selects "SkeletonTree$Pieces" ({ cls := "SkeletonTree$Pieces", name := "linkPiece", desc := "(I)V" } : Jvm.MethodName) ({ cls := "SkeletonTree$Pieces", name := "linkPiece", desc := "(I)V" } : Jvm.MethodName)) ∈ GW := gw_of 3 (by decide +kernel) (by decide +kernel)
theorem g_312 : (Jvm.Cond.code ({ cls := "SkeletonTree$Pieces", name := "splitAt", desc := "(III)V" } : Jvm.MethodName) prog_5_method_7_code (5 : Nat) (Option.none : Option Jvm.ClassFile.FieldType)) ∈ GW := gw_of 312 (by decide +kernel) (by decide +kernel)
theorem g_309 : (Jvm.Cond.methodLink "SkeletonTree$Pieces" (66 : Nat) ({ cls := "SkeletonTree$Pieces", name := "splitAt", desc := "(III)V" } : Jvm.MethodName)) ∈ GW := gw_of 309 (by decide +kernel) (by decide +kernel)
theorem g_311 : (Jvm.Cond.instanceMethod ({ cls := "SkeletonTree$Pieces", name := "splitAt", desc := "(III)V" } : Jvm.MethodName)) ∈ GW := gw_of 311 (by decide +kernel) (by decide +kernel)
theorem g_4 : (Jvm.Cond.selects "SkeletonTree$Pieces" ({ cls := "SkeletonTree$Pieces", name := "splitAt", desc := "(III)V" } : Jvm.MethodName) ({ cls := "SkeletonTree$Pieces", name := "splitAt", desc := "(III)V" } : Jvm.MethodName)) ∈ GW := gw_of 4 (by decide +kernel) (by decide +kernel)
theorem g_330 : (Jvm.Cond.methodLink "SkeletonTree$Pieces" (98 : Nat) ({ cls := "java/lang/Long", name := "bitCount", desc := "(J)I" } : Jvm.MethodName)) ∈ GW := gw_of 330 (by decide +kernel) (by decide +kernel)
theorem g_298 : (Jvm.Cond.code ({ cls := "SkeletonTree$Pieces", name := "comeApartFrom", desc := "(I)V" } : Jvm.MethodName) prog_5_method_6_code (4 : Nat) (Option.none : Option Jvm.ClassFile.FieldType)) ∈ GW := gw_of 298 (by decide +kernel) (by decide +kernel)
theorem g_295 : (Jvm.Cond.methodLink "SkeletonTree$Pieces" (47 : Nat) ({ cls := "SkeletonTree$Pieces", name := "comeApartFrom", desc := "(I)V" } : Jvm.MethodName)) ∈ GW := gw_of 295 (by decide +kernel) (by decide +kernel)
theorem g_297 : (Jvm.Cond.instanceMethod ({ cls := "SkeletonTree$Pieces", name := "comeApartFrom", desc := "(I)V" } : Jvm.MethodName)) ∈ GW := gw_of 297 (by decide +kernel) (by decide +kernel)
theorem g_2 : (Jvm.Cond.selects "SkeletonTree$Pieces" ({ cls := "SkeletonTree$Pieces", name := "comeApartFrom", desc := "(I)V" } : Jvm.MethodName) ({ cls := "SkeletonTree$Pieces", name := "comeApartFrom", desc := "(I)V" } : Jvm.MethodName)) ∈ GW := gw_of 2 (by decide +kernel) (by decide +kernel)
theorem g_107 : (Jvm.Cond.fieldLink "SkeletonTree$Pieces" (21 : Nat) "SkeletonTree$Pieces" "kindOf" "[I") ∈ GW := gw_of 107 (by decide +kernel) (by decide +kernel)
theorem g_329 : (Jvm.Cond.code ({ cls := "SkeletonTree$Pieces", name := "kindByPoints", desc := "()I" } : Jvm.MethodName) prog_5_method_10_code (2 : Nat) (Option.some Jvm.ClassFile.FieldType.int)) ∈ GW := gw_of 329 (by decide +kernel) (by decide +kernel)
theorem g_326 : (Jvm.Cond.methodLink "SkeletonTree$Pieces" (51 : Nat) ({ cls := "SkeletonTree$Pieces", name := "kindByPoints", desc := "()I" } : Jvm.MethodName)) ∈ GW := gw_of 326 (by decide +kernel) (by decide +kernel)
theorem g_328 : (Jvm.Cond.instanceMethod ({ cls := "SkeletonTree$Pieces", name := "kindByPoints", desc := "()I" } : Jvm.MethodName)) ∈ GW := gw_of 328 (by decide +kernel) (by decide +kernel)
theorem g_6 : (Jvm.Cond.selects "SkeletonTree$Pieces" ({ cls := "SkeletonTree$Pieces", name := "kindByPoints", desc := "()I" } : Jvm.MethodName) ({ cls := "SkeletonTree$Pieces", name := "kindByPoints", desc := "()I" } : Jvm.MethodName)) ∈ GW := gw_of 6 (by decide +kernel) (by decide +kernel)
theorem g_338 : (Jvm.Cond.code ({ cls := "SkeletonTree$Pieces", name := "moveAll", desc := "(II)V" } : Jvm.MethodName) prog_5_method_12_code (4 : Nat) (Option.none : Option Jvm.ClassFile.FieldType)) ∈ GW := gw_of 338 (by decide +kernel) (by decide +kernel)
theorem g_335 : (Jvm.Cond.methodLink "SkeletonTree$Pieces" (104 : Nat) ({ cls := "SkeletonTree$Pieces", name := "moveAll", desc := "(II)V" } : Jvm.MethodName)) ∈ GW := gw_of 335 (by decide +kernel) (by decide +kernel)
theorem g_337 : (Jvm.Cond.instanceMethod ({ cls := "SkeletonTree$Pieces", name := "moveAll", desc := "(II)V" } : Jvm.MethodName)) ∈ GW := gw_of 337 (by decide +kernel) (by decide +kernel)
theorem g_7 : (Jvm.Cond.selects "SkeletonTree$Pieces" ({ cls := "SkeletonTree$Pieces", name := "moveAll", desc := "(II)V" } : Jvm.MethodName) ({ cls := "SkeletonTree$Pieces", name := "moveAll", desc := "(II)V" } : Jvm.MethodName)) ∈ GW := gw_of 7 (by decide +kernel) (by decide +kernel)
theorem fl_Pieces_18 : sk_Fl "SkeletonTree$Pieces" 18 3 2 := ⟨_, _, _, rfl, in_Pieces, by decide, g_104⟩
theorem fp_Pieces_34 : sk_Fp "SkeletonTree$Pieces" 34 3 6 .int := ⟨_, _, _, t_Pieces, rfl, in_Pieces, by decide, g_111, ty_Pieces, nm_Pieces, rfl, by decide +kernel⟩
theorem fp_Pieces_38 : sk_Fp "SkeletonTree$Pieces" 38 3 7 .int := ⟨_, _, _, t_Pieces, rfl, in_Pieces, by decide, g_114, ty_Pieces, nm_Pieces, rfl, by decide +kernel⟩
theorem fl_Pieces_9 : sk_Fl "SkeletonTree$Pieces" 9 3 0 := ⟨_, _, _, rfl, in_Pieces, by decide, g_100⟩
theorem fl_Pieces_15 : sk_Fl "SkeletonTree$Pieces" 15 3 1 := ⟨_, _, _, rfl, in_Pieces, by decide, g_102⟩
theorem fl_Pieces_30 : sk_Fl "SkeletonTree$Pieces" 30 3 5 := ⟨_, _, _, rfl, in_Pieces, by decide, g_110⟩
theorem fl_Pieces_34 : sk_Fl "SkeletonTree$Pieces" 34 3 6 := ⟨_, _, _, rfl, in_Pieces, by decide, g_111⟩
theorem fl_Pieces_58 : sk_Fl "SkeletonTree$Pieces" 58 0 2 := ⟨_, _, _, rfl, in_Links, by decide, g_80⟩
theorem fl_Pieces_38 : sk_Fl "SkeletonTree$Pieces" 38 3 7 := ⟨_, _, _, rfl, in_Pieces, by decide, g_114⟩
theorem fl_Pieces_24 : sk_Fl "SkeletonTree$Pieces" 24 3 4 := ⟨_, _, _, rfl, in_Pieces, by decide, g_109⟩
theorem fl_Pieces_21 : sk_Fl "SkeletonTree$Pieces" 21 3 3 := ⟨_, _, _, rfl, in_Pieces, by decide, g_107⟩
theorem v_Pieces_41 : sk_S "SkeletonTree$Pieces" 41 y_Arrays_fillI c_Arrays_fillI 4 (Option.none : Option Jvm.ClassFile.FieldType) 2 := ⟨g_286, g_284, g_285, g_58, by decide +kernel⟩
theorem v_Pieces_91 : sk_V "SkeletonTree$Pieces" 91 y_Links_clear c_Links_clear 1 (Option.none : Option Jvm.ClassFile.FieldType) 0 "SkeletonTree$Links" := ⟨g_250, g_303, g_248, g_249, g_48, by decide +kernel⟩
theorem v_Pieces_94 : sk_V "SkeletonTree$Pieces" 94 y_Links_link c_Links_link 3 (Option.none : Option Jvm.ClassFile.FieldType) 2 "SkeletonTree$Links" := ⟨g_257, g_304, g_255, g_256, g_48, by decide +kernel⟩
theorem v_Pieces_77 : sk_SN "SkeletonTree$Pieces" 77 y_Tree_only c_Tree_only 1 (Option.some Jvm.ClassFile.FieldType.long) 1 := ⟨"SkeletonTree", g_260, g_322, g_259, g_47, by decide +kernel⟩
theorem v_Pieces_83 : sk_V "SkeletonTree$Pieces" 83 y_Links_reach c_Links_reach 12 (Option.some Jvm.ClassFile.FieldType.long) 1 "SkeletonTree$Links" := ⟨g_268, g_324, g_266, g_267, g_48, by decide +kernel⟩
theorem v_Pieces_62 : sk_SN "SkeletonTree$Pieces" 62 y_Tree_holds c_Tree_holds 3 (Option.some Jvm.ClassFile.FieldType.boolean) 2 := ⟨"SkeletonTree", g_307, g_305, g_306, g_47, by decide +kernel⟩
theorem v_Pieces_87 : sk_V "SkeletonTree$Pieces" 87 y_Pieces_place c_Pieces_place 5 (Option.none : Option Jvm.ClassFile.FieldType) 4 "SkeletonTree$Pieces" := ⟨g_290, g_325, g_288, g_289, g_49, by decide +kernel⟩
theorem v_Pieces_70 : sk_V "SkeletonTree$Pieces" 70 y_Links_comeApartAt c_Links_comeApartAt 5 (Option.some Jvm.ClassFile.FieldType.boolean) 2 "SkeletonTree$Links" := ⟨g_316, g_313, g_314, g_315, g_48, by decide +kernel⟩
theorem v_Pieces_74 : sk_V "SkeletonTree$Pieces" 74 y_Pieces_splitOff c_Pieces_splitOff 8 (Option.none : Option Jvm.ClassFile.FieldType) 3 "SkeletonTree$Pieces" := ⟨g_321, g_318, g_320, g_5, g_49, by decide +kernel⟩
theorem v_Pieces_55 : sk_V "SkeletonTree$Pieces" 55 y_Pieces_linkPiece c_Pieces_linkPiece 3 (Option.none : Option Jvm.ClassFile.FieldType) 1 "SkeletonTree$Pieces" := ⟨g_302, g_299, g_301, g_3, g_49, by decide +kernel⟩
theorem v_Pieces_66 : sk_V "SkeletonTree$Pieces" 66 y_Pieces_splitAt c_Pieces_splitAt 5 (Option.none : Option Jvm.ClassFile.FieldType) 3 "SkeletonTree$Pieces" := ⟨g_312, g_309, g_311, g_4, g_49, by decide +kernel⟩
theorem v_Pieces_98 : sk_S "SkeletonTree$Pieces" 98 y_Long_bitCount c_Long_bitCount 2 (Option.some Jvm.ClassFile.FieldType.int) 1 := ⟨g_271, g_330, g_270, g_59, by decide +kernel⟩
theorem v_Pieces_47 : sk_V "SkeletonTree$Pieces" 47 y_Pieces_comeApartFrom c_Pieces_comeApartFrom 4 (Option.none : Option Jvm.ClassFile.FieldType) 1 "SkeletonTree$Pieces" := ⟨g_298, g_295, g_297, g_2, g_49, by decide +kernel⟩
theorem v_Pieces_51 : sk_V "SkeletonTree$Pieces" 51 y_Pieces_kindByPoints c_Pieces_kindByPoints 2 (Option.some Jvm.ClassFile.FieldType.int) 0 "SkeletonTree$Pieces" := ⟨g_329, g_326, g_328, g_6, g_49, by decide +kernel⟩
theorem v_Pieces_104 : sk_V "SkeletonTree$Pieces" 104 y_Pieces_moveAll c_Pieces_moveAll 4 (Option.none : Option Jvm.ClassFile.FieldType) 2 "SkeletonTree$Pieces" := ⟨g_338, g_335, g_337, g_7, g_49, by decide +kernel⟩
/-! SkeletonTree$Pieces.clear()V -/
def t_Pieces_clear : List (Nat × Instr × Nat) := [(0, .aload_n 0, 1), (1, .getfield 18, 3), (4, .iconst (-1), 1), (5, .invokestatic 41, 3), (8, .aload_n 0, 1), (9, .bipush 100, 2), (11, .putfield 34, 3), (14, .aload_n 0, 1), (15, .iconst 1, 1), (16, .putfield 38, 3), (19, .return_, 1)]
set_option maxRecDepth 100000 in
theorem d_Pieces_clear : sk_T c_Pieces_clear t_Pieces_clear := by unfold sk_T t_Pieces_clear; decide +kernel
def w_Pieces_clear (cI cJ cZ : ClassId) (a_t a_firstEnd a_secondEnd a_home a_kindOf a_startAt a_links : Nat) (home : Nat → Int32) (slots : Int32) (count : Int32) : va_W := [(a_t, .inr (3, [.ref a_firstEnd, .ref a_secondEnd, .ref a_home, .ref a_kindOf, .ref a_startAt, .ref a_links, .int slots, .int count])), (a_home, .inl (cI, 294, .inl home))]
def wp_Pieces_clear  (home : Nat → Int32) (slots : Int32) (count : Int32)  (post : (Nat → Int32) → Int32 → Int32 → Prop) : Prop :=
  wp_Arrays_fillI 294 home (-1) (fun home_1 => post home_1 100 1)
set_option maxHeartbeats 4000000 in
set_option maxRecDepth 100000 in
theorem bd_Pieces_clear {p : Program} {l : Launch} {e : Env} {R : Room} {s : State} {m : MethodId} {args : Array Value} {below : List Frame} {meth : Method} {c : Code} {D : va_G} {A B : Nat → Prop} {Q : State → Prop} {cI cJ cZ : ClassId} {a_t a_firstEnd a_secondEnd a_home a_kindOf a_startAt a_links : Nat} {home : Nat → Int32} {slots : Int32} {count : Int32}  (K : sk_C p s m args meth c c_Pieces_clear 1 "SkeletonTree$Pieces" D (tyl cI cJ cZ)) (hR1 : 1 ≤ R.frames) (hR2 : 23 ≤ R.locals) (hBA : ∀ q : Nat, B q → A q) {post : (Nat → Int32) → Int32 → Int32 → Prop} (hend : ∀ (ti pc : Nat)  (y0 : Nat → Int32) (y1 : Int32) (y2 : Int32) (lv : List (Nat × Value)), t_Pieces_clear[ti]? = some (pc, .return_, 1) → post  y0 y1 y2 → AW p l e R s m args below meth c D A B 1 Q 0 0 (w_Pieces_clear cI cJ cZ a_t a_firstEnd a_secondEnd a_home a_kindOf a_startAt a_links y0 y1 y2) lv pc []) (h : wp_Pieces_clear home slots count post) : AW p l e R s m args below meth c D A B 1 Q 0 0 (w_Pieces_clear cI cJ cZ a_t a_firstEnd a_secondEnd a_home a_kindOf a_startAt a_links home slots count) [(0, .ref a_t)] 0 [] := by
  unfold wp_Pieces_clear at h
  refine A_aload_n K d_Pieces_clear 0 0 (pc' := 1) rfl rfl rfl rfl ?_
  refine A_get K d_Pieces_clear 1 0 fl_Pieces_18 (pc' := 4) rfl rfl rfl rfl ?_
  refine A_iconst K d_Pieces_clear 2 (pc' := 5) (v := (-1)) rfl rfl (by decide) ?_
  refine C_Sv1 K hBA d_Pieces_clear 3 [1] [none, some 0] (As := [.ref a_home, .int (-1)]) (rest := []) (pc' := 8) (wl := fun home_1 => w_Arrays_fillI cI cJ cZ a_home 294 home_1) (ws' := fun home_1 => w_Pieces_clear cI cJ cZ a_t a_firstEnd a_secondEnd a_home a_kindOf a_startAt a_links home_1 slots count) v_Pieces_41 ⟨rfl, rfl, Nat.le_trans (Nat.le_of_ble_eq_true rfl) hR1, Nat.le_trans (Nat.le_of_ble_eq_true rfl) hR2⟩ (fun sz => met_Arrays_fillI l D cI cJ cZ a_home 294 home (-1) _ sz) h rfl rfl rfl rfl rfl (fun _ => rfl) rfl (by decide) (Nat.le_of_ble_eq_true rfl) ⟨Nat.zero_le _, Nat.zero_le _⟩ (fun _ => rfl) (fun home_1 h => ?_)
  refine A_aload_n K d_Pieces_clear 4 0 (pc' := 9) rfl rfl rfl rfl ?_
  refine A_bipush K d_Pieces_clear 5 (pc' := 11) (v := 100) rfl rfl (by decide) ?_
  refine A_put K hBA d_Pieces_clear 6 0 fp_Pieces_34 (pc' := 14) (ws' := w_Pieces_clear cI cJ cZ a_t a_firstEnd a_secondEnd a_home a_kindOf a_startAt a_links home_1 100 count) rfl rfl rfl (Nat.le_of_ble_eq_true rfl) rfl rfl rfl ?_
  refine A_aload_n K d_Pieces_clear 7 0 (pc' := 15) rfl rfl rfl rfl ?_
  refine A_iconst K d_Pieces_clear 8 (pc' := 16) (v := 1) rfl rfl (by decide) ?_
  refine A_put K hBA d_Pieces_clear 9 0 fp_Pieces_38 (pc' := 19) (ws' := w_Pieces_clear cI cJ cZ a_t a_firstEnd a_secondEnd a_home a_kindOf a_startAt a_links home_1 100 1) rfl rfl rfl (Nat.le_of_ble_eq_true rfl) rfl rfl rfl ?_
  exact hend 10 _ _ _ _ _ rfl h
theorem met_Pieces_clear (l : Launch) (D : va_G) (cI cJ cZ : ClassId) (a_t a_firstEnd a_secondEnd a_home a_kindOf a_startAt a_links : Nat) (home : Nat → Int32) (slots : Int32) (count : Int32)  (post : (Nat → Int32) → Int32 → Int32 → Prop) (sz : Nat) : Met l y_Pieces_clear (Cond.code y_Pieces_clear c_Pieces_clear 1 (Option.none : Option Jvm.ClassFile.FieldType) :: GW) { frames := 1, cells := 0, slots := 0, locals := 23 } (va_Pc [.ref a_t] (fun U => sk_P D (tyl cI cJ cZ) (w_Pieces_clear cI cJ cZ a_t a_firstEnd a_secondEnd a_home a_kindOf a_startAt a_links home slots count) sz U ∧ wp_Pieces_clear home slots count post)) (va_Qv (fun (u : (Nat → Int32) × Int32 × Int32) => post  u.1 u.2.1 u.2.2) (fun u t => sk_B D (tyl cI cJ cZ) (w_Pieces_clear cI cJ cZ a_t a_firstEnd a_secondEnd a_home a_kindOf a_startAt a_links u.1 u.2.1 u.2.2) (va_A (w_Pieces_clear cI cJ cZ a_t a_firstEnd a_secondEnd a_home a_kindOf a_startAt a_links home slots count) sz) t) (va_A (w_Pieces_clear cI cJ cZ a_t a_firstEnd a_secondEnd a_home a_kindOf a_startAt a_links home slots count) sz)) 0 0 (va_A (w_Pieces_clear cI cJ cZ a_t a_firstEnd a_secondEnd a_home a_kindOf a_startAt a_links home slots count) sz) :=
  sk_intro (by decide) (Nat.le_of_ble_eq_true rfl) (fun p e s m below meth c K hr _ h => bd_Pieces_clear K (Nat.le_refl _) (Nat.le_refl _) (fun _ z => z) (fun ti pc y0 y1 y2 lv hd hp => A_vret K d_Pieces_clear ti hr (post := (fun (u : (Nat → Int32) × Int32 × Int32) => post  u.1 u.2.1 u.2.2)) (wl := fun (u : (Nat → Int32) × Int32 × Int32) => w_Pieces_clear cI cJ cZ a_t a_firstEnd a_secondEnd a_home a_kindOf a_startAt a_links u.1 u.2.1 u.2.2) (y0, y1, y2) hd hp) h)
/-! SkeletonTree$Pieces.place(IIII)V -/
def t_Pieces_place : List (Nat × Instr × Nat) := [(0, .aload_n 0, 1), (1, .getfield 9, 3), (4, .iload_n 1, 1), (5, .iload_n 2, 1), (6, .iastore, 1), (7, .aload_n 0, 1), (8, .getfield 15, 3), (11, .iload_n 1, 1), (12, .iload_n 3, 1), (13, .iastore, 1), (14, .aload_n 0, 1), (15, .getfield 18, 3), (18, .iload_n 1, 1), (19, .iload 4, 2), (21, .iastore, 1), (22, .return_, 1)]
set_option maxRecDepth 100000 in
theorem d_Pieces_place : sk_T c_Pieces_place t_Pieces_place := by unfold sk_T t_Pieces_place; decide +kernel
def w_Pieces_place (cI cJ cZ : ClassId) (a_t a_firstEnd a_secondEnd a_home a_kindOf a_startAt a_links : Nat) (firstEnd : Nat → Int32) (secondEnd : Nat → Int32) (home : Nat → Int32) (slots : Int32) (count : Int32) : va_W := [(a_t, .inr (3, [.ref a_firstEnd, .ref a_secondEnd, .ref a_home, .ref a_kindOf, .ref a_startAt, .ref a_links, .int slots, .int count])), (a_firstEnd, .inl (cI, 294, .inl firstEnd)), (a_secondEnd, .inl (cI, 294, .inl secondEnd)), (a_home, .inl (cI, 294, .inl home))]
def wp_Pieces_place  (firstEnd : Nat → Int32) (secondEnd : Nat → Int32) (home : Nat → Int32) (x1 : Int32) (x2 : Int32) (x3 : Int32) (x4 : Int32) (post : (Nat → Int32) → (Nat → Int32) → (Nat → Int32) → Prop) : Prop :=
  vp_in x1 294 ∧ ∀ firstEnd_1 : Nat → Int32, firstEnd_1 = upd firstEnd (ix x1) x2 → vp_in x1 294 ∧ ∀ secondEnd_3 : Nat → Int32, secondEnd_3 = upd secondEnd (ix x1) x3 → vp_in x1 294 ∧ ∀ home_5 : Nat → Int32, home_5 = upd home (ix x1) x4 → post firstEnd_1 secondEnd_3 home_5
set_option maxHeartbeats 4000000 in
set_option maxRecDepth 100000 in
theorem bd_Pieces_place {p : Program} {l : Launch} {e : Env} {R : Room} {s : State} {m : MethodId} {args : Array Value} {below : List Frame} {meth : Method} {c : Code} {D : va_G} {A B : Nat → Prop} {Q : State → Prop} {cI cJ cZ : ClassId} {a_t a_firstEnd a_secondEnd a_home a_kindOf a_startAt a_links : Nat} {firstEnd : Nat → Int32} {secondEnd : Nat → Int32} {home : Nat → Int32} {slots : Int32} {count : Int32} {x1 : Int32} {x2 : Int32} {x3 : Int32} {x4 : Int32} (K : sk_C p s m args meth c c_Pieces_place 5 "SkeletonTree$Pieces" D (tyl cI cJ cZ)) (hR1 : 0 ≤ R.frames) (hR2 : 0 ≤ R.locals) (hBA : ∀ q : Nat, B q → A q) {post : (Nat → Int32) → (Nat → Int32) → (Nat → Int32) → Prop} (hend : ∀ (ti pc : Nat)  (y0 : Nat → Int32) (y1 : Nat → Int32) (y2 : Nat → Int32) (lv : List (Nat × Value)), t_Pieces_place[ti]? = some (pc, .return_, 1) → post  y0 y1 y2 → AW p l e R s m args below meth c D A B 5 Q 0 0 (w_Pieces_place cI cJ cZ a_t a_firstEnd a_secondEnd a_home a_kindOf a_startAt a_links y0 y1 y2 slots count) lv pc []) (h : wp_Pieces_place firstEnd secondEnd home x1 x2 x3 x4 post) : AW p l e R s m args below meth c D A B 5 Q 0 0 (w_Pieces_place cI cJ cZ a_t a_firstEnd a_secondEnd a_home a_kindOf a_startAt a_links firstEnd secondEnd home slots count) [(0, .ref a_t), (1, .int x1), (2, .int x2), (3, .int x3), (4, .int x4)] 0 [] := by
  unfold wp_Pieces_place at h
  refine A_aload_n K d_Pieces_place 0 0 (pc' := 1) rfl rfl rfl rfl ?_
  refine A_get K d_Pieces_place 1 0 fl_Pieces_9 (pc' := 4) rfl rfl rfl rfl ?_
  refine A_iload_n K d_Pieces_place 2 1 (pc' := 5) rfl rfl rfl rfl ?_
  refine A_iload_n K d_Pieces_place 3 2 (pc' := 6) rfl rfl rfl rfl ?_
  refine A_iastN K hBA d_Pieces_place 4 1 0 (pc' := 7) (ws' := fun firstEnd_1 => w_Pieces_place cI cJ cZ a_t a_firstEnd a_secondEnd a_home a_kindOf a_startAt a_links firstEnd_1 secondEnd home slots count) rfl rfl rfl rfl h.1 (fun _ => rfl) (fun firstEnd_1 e_2 => ?_)
  replace h := h.2 firstEnd_1 e_2
  refine A_aload_n K d_Pieces_place 5 0 (pc' := 8) rfl rfl rfl rfl ?_
  refine A_get K d_Pieces_place 6 0 fl_Pieces_15 (pc' := 11) rfl rfl rfl rfl ?_
  refine A_iload_n K d_Pieces_place 7 1 (pc' := 12) rfl rfl rfl rfl ?_
  refine A_iload_n K d_Pieces_place 8 3 (pc' := 13) rfl rfl rfl rfl ?_
  refine A_iastN K hBA d_Pieces_place 9 2 0 (pc' := 14) (ws' := fun secondEnd_3 => w_Pieces_place cI cJ cZ a_t a_firstEnd a_secondEnd a_home a_kindOf a_startAt a_links firstEnd_1 secondEnd_3 home slots count) rfl rfl rfl rfl h.1 (fun _ => rfl) (fun secondEnd_3 e_4 => ?_)
  replace h := h.2 secondEnd_3 e_4
  refine A_aload_n K d_Pieces_place 10 0 (pc' := 15) rfl rfl rfl rfl ?_
  refine A_get K d_Pieces_place 11 0 fl_Pieces_18 (pc' := 18) rfl rfl rfl rfl ?_
  refine A_iload_n K d_Pieces_place 12 1 (pc' := 19) rfl rfl rfl rfl ?_
  refine A_iload K d_Pieces_place 13 4 (pc' := 21) rfl rfl rfl ?_
  refine A_iastN K hBA d_Pieces_place 14 3 0 (pc' := 22) (ws' := fun home_5 => w_Pieces_place cI cJ cZ a_t a_firstEnd a_secondEnd a_home a_kindOf a_startAt a_links firstEnd_1 secondEnd_3 home_5 slots count) rfl rfl rfl rfl h.1 (fun _ => rfl) (fun home_5 e_6 => ?_)
  replace h := h.2 home_5 e_6
  exact hend 15 _ _ _ _ _ rfl h
theorem met_Pieces_place (l : Launch) (D : va_G) (cI cJ cZ : ClassId) (a_t a_firstEnd a_secondEnd a_home a_kindOf a_startAt a_links : Nat) (firstEnd : Nat → Int32) (secondEnd : Nat → Int32) (home : Nat → Int32) (slots : Int32) (count : Int32) (x1 : Int32) (x2 : Int32) (x3 : Int32) (x4 : Int32) (post : (Nat → Int32) → (Nat → Int32) → (Nat → Int32) → Prop) (sz : Nat) : Met l y_Pieces_place (Cond.code y_Pieces_place c_Pieces_place 5 (Option.none : Option Jvm.ClassFile.FieldType) :: GW) { frames := 0, cells := 0, slots := 0, locals := 0 } (va_Pc [.ref a_t, .int x1, .int x2, .int x3, .int x4] (fun U => sk_P D (tyl cI cJ cZ) (w_Pieces_place cI cJ cZ a_t a_firstEnd a_secondEnd a_home a_kindOf a_startAt a_links firstEnd secondEnd home slots count) sz U ∧ wp_Pieces_place firstEnd secondEnd home x1 x2 x3 x4 post)) (va_Qv (fun (u : (Nat → Int32) × (Nat → Int32) × (Nat → Int32)) => post  u.1 u.2.1 u.2.2) (fun u t => sk_B D (tyl cI cJ cZ) (w_Pieces_place cI cJ cZ a_t a_firstEnd a_secondEnd a_home a_kindOf a_startAt a_links u.1 u.2.1 u.2.2 slots count) (va_A (w_Pieces_place cI cJ cZ a_t a_firstEnd a_secondEnd a_home a_kindOf a_startAt a_links firstEnd secondEnd home slots count) sz) t) (va_A (w_Pieces_place cI cJ cZ a_t a_firstEnd a_secondEnd a_home a_kindOf a_startAt a_links firstEnd secondEnd home slots count) sz)) 0 0 (va_A (w_Pieces_place cI cJ cZ a_t a_firstEnd a_secondEnd a_home a_kindOf a_startAt a_links firstEnd secondEnd home slots count) sz) :=
  sk_intro (by decide) (Nat.le_of_ble_eq_true rfl) (fun p e s m below meth c K hr _ h => bd_Pieces_place K (Nat.le_refl _) (Nat.le_refl _) (fun _ z => z) (fun ti pc y0 y1 y2 lv hd hp => A_vret K d_Pieces_place ti hr (post := (fun (u : (Nat → Int32) × (Nat → Int32) × (Nat → Int32)) => post  u.1 u.2.1 u.2.2)) (wl := fun (u : (Nat → Int32) × (Nat → Int32) × (Nat → Int32)) => w_Pieces_place cI cJ cZ a_t a_firstEnd a_secondEnd a_home a_kindOf a_startAt a_links u.1 u.2.1 u.2.2 slots count) (y0, y1, y2) hd hp) h)
/-! SkeletonTree$Pieces.otherSide(I)I -/
def t_Pieces_otherSide : List (Nat × Instr × Nat) := [(0, .iload_n 0, 1), (1, .iconst 1, 1), (2, .ixor, 1), (3, .ireturn, 1)]
set_option maxRecDepth 100000 in
theorem d_Pieces_otherSide : sk_T c_Pieces_otherSide t_Pieces_otherSide := by unfold sk_T t_Pieces_otherSide; decide +kernel
def w_Pieces_otherSide (cI cJ cZ : ClassId)   : va_W := []
def wp_Pieces_otherSide   (x0 : Int32) (post : Int32 → Prop) : Prop :=
  post (x0 ^^^ 1) 
set_option maxHeartbeats 4000000 in
set_option maxRecDepth 100000 in
theorem bd_Pieces_otherSide {p : Program} {l : Launch} {e : Env} {R : Room} {s : State} {m : MethodId} {args : Array Value} {below : List Frame} {meth : Method} {c : Code} {D : va_G} {A B : Nat → Prop} {Q : State → Prop} {cI cJ cZ : ClassId}   {x0 : Int32} (K : sk_C p s m args meth c c_Pieces_otherSide 1 "SkeletonTree$Pieces" D (tyl cI cJ cZ)) (hR1 : 0 ≤ R.frames) (hR2 : 0 ≤ R.locals) {post : Int32 → Prop} (hend : ∀ (ti pc : Nat) (r : Int32)  (lv : List (Nat × Value)), t_Pieces_otherSide[ti]? = some (pc, .ireturn, 1) → post r  → AW p l e R s m args below meth c D A B 1 Q 0 0 (w_Pieces_otherSide cI cJ cZ ) lv pc [.int r]) (h : wp_Pieces_otherSide x0 post) : AW p l e R s m args below meth c D A B 1 Q 0 0 (w_Pieces_otherSide cI cJ cZ ) [(0, .int x0)] 0 [] := by
  unfold wp_Pieces_otherSide at h
  refine A_iload_n K d_Pieces_otherSide 0 0 (pc' := 1) rfl rfl rfl rfl ?_
  refine A_iconst K d_Pieces_otherSide 1 (pc' := 2) (v := 1) rfl rfl (by decide) ?_
  refine A_ixor K d_Pieces_otherSide 2 (pc' := 3) rfl rfl ?_
  exact hend 3 _ _ _ rfl h
theorem met_Pieces_otherSide (l : Launch) (D : va_G) (cI cJ cZ : ClassId)   (x0 : Int32) (post : Int32 → Prop) (sz : Nat) : Met l y_Pieces_otherSide (Cond.code y_Pieces_otherSide c_Pieces_otherSide 1 (Option.some Jvm.ClassFile.FieldType.int) :: GW) { frames := 0, cells := 0, slots := 0, locals := 0 } (va_Pc [.int x0] (fun U => sk_P D (tyl cI cJ cZ) (w_Pieces_otherSide cI cJ cZ ) sz U ∧ wp_Pieces_otherSide x0 post)) (va_Qi (fun (r : Int32) (_ : Unit) => post r) (fun _ t => sk_B D (tyl cI cJ cZ) (w_Pieces_otherSide cI cJ cZ ) (fun _ => True) t) (fun q => sz ≤ q)) 0 0 (fun q => sz ≤ q) :=
  sk_introR (by decide) (Nat.le_of_ble_eq_true rfl) (fun p e s m below meth c K hr _ h => bd_Pieces_otherSide K (Nat.le_refl _) (Nat.le_refl _) (fun ti pc r  lv hd hp => A_iret K d_Pieces_otherSide ti hr (post := (fun (r : Int32) (_ : Unit) => post r)) (wl := fun (_ : Unit) => w_Pieces_otherSide cI cJ cZ ) () hd hp) h)
/-! SkeletonTree$Pieces.linkPiece(I)V -/
def t_Pieces_linkPiece : List (Nat × Instr × Nat) := [(0, .aload_n 0, 1), (1, .getfield 30, 3), (4, .invokevirtual 91, 3), (7, .iconst 0, 1), (8, .istore_n 2, 1), (9, .iload_n 2, 1), (10, .aload_n 0, 1), (11, .getfield 34, 3), (14, .if_icmp .ge 38, 3), (17, .aload_n 0, 1), (18, .getfield 18, 3), (21, .iload_n 2, 1), (22, .iaload, 1), (23, .iload_n 1, 1), (24, .if_icmp .ne 22, 3), (27, .aload_n 0, 1), (28, .getfield 30, 3), (31, .aload_n 0, 1), (32, .getfield 9, 3), (35, .iload_n 2, 1), (36, .iaload, 1), (37, .aload_n 0, 1), (38, .getfield 15, 3), (41, .iload_n 2, 1), (42, .iaload, 1), (43, .invokevirtual 94, 3), (46, .iinc 2 1, 3), (49, .goto (-40), 3), (52, .return_, 1)]
set_option maxRecDepth 100000 in
theorem d_Pieces_linkPiece : sk_T c_Pieces_linkPiece t_Pieces_linkPiece := by unfold sk_T t_Pieces_linkPiece; decide +kernel
def w_Pieces_linkPiece (cI cJ cZ : ClassId) (a_t a_firstEnd a_secondEnd a_home a_kindOf a_startAt a_links a_links_near a_links_nearTwice : Nat) (firstEnd : Nat → Int32) (secondEnd : Nat → Int32) (home : Nat → Int32) (links_near : Nat → Int64) (links_nearTwice : Nat → Int64) (links_present : Int64) (slots : Int32) (count : Int32) : va_W := [(a_t, .inr (3, [.ref a_firstEnd, .ref a_secondEnd, .ref a_home, .ref a_kindOf, .ref a_startAt, .ref a_links, .int slots, .int count])), (a_firstEnd, .inl (cI, 294, .inl firstEnd)), (a_secondEnd, .inl (cI, 294, .inl secondEnd)), (a_home, .inl (cI, 294, .inl home)), (a_links, .inr (0, [.ref a_links_near, .ref a_links_nearTwice, .long links_present])), (a_links_near, .inl (cJ, 40, .inr (.inl links_near))), (a_links_nearTwice, .inl (cJ, 40, .inr (.inl links_nearTwice)))]
def wp_Pieces_linkPiece  (firstEnd : Nat → Int32) (secondEnd : Nat → Int32) (home : Nat → Int32) (links_near : Nat → Int64) (links_nearTwice : Nat → Int64) (links_present : Int64) (slots : Int32) (x1 : Int32) (post : (Nat → Int64) → (Nat → Int64) → Int64 → Prop) : Prop :=
  wp_Links_clear links_near links_nearTwice links_present (fun links_near_1 links_nearTwice_2 links_present_3 => ∃ n, sL4 (fun (K_8 : Int32 → (Nat → Int64) → (Nat → Int64) → Int64 → Prop) (i2_4 : Int32) (links_near_5 : Nat → Int64) (links_nearTwice_6 : Nat → Int64) (links_present_7 : Int64) => (slots ≤ i2_4 → post links_near_5 links_nearTwice_6 links_present_7) ∧ (¬ slots ≤ i2_4 → vp_in i2_4 294 ∧ (¬ (home (ix i2_4)) = x1 → K_8 (i2_4 + 1) links_near_5 links_nearTwice_6 links_present_7) ∧ ((home (ix i2_4)) = x1 → vp_in i2_4 294 ∧ vp_in i2_4 294 ∧ wp_Links_link links_near_5 links_nearTwice_6 links_present_7 (firstEnd (ix i2_4)) (secondEnd (ix i2_4)) (fun links_near_11 links_nearTwice_12 links_present_13 => K_8 (i2_4 + 1) links_near_11 links_nearTwice_12 links_present_13)))) n 0 links_near_1 links_nearTwice_2 links_present_3)
set_option maxHeartbeats 4000000 in
set_option maxRecDepth 100000 in
theorem bd_Pieces_linkPiece {p : Program} {l : Launch} {e : Env} {R : Room} {s : State} {m : MethodId} {args : Array Value} {below : List Frame} {meth : Method} {c : Code} {D : va_G} {A B : Nat → Prop} {Q : State → Prop} {cI cJ cZ : ClassId} {a_t a_firstEnd a_secondEnd a_home a_kindOf a_startAt a_links a_links_near a_links_nearTwice : Nat} {firstEnd : Nat → Int32} {secondEnd : Nat → Int32} {home : Nat → Int32} {links_near : Nat → Int64} {links_nearTwice : Nat → Int64} {links_present : Int64} {slots : Int32} {count : Int32} {x1 : Int32} (K : sk_C p s m args meth c c_Pieces_linkPiece 3 "SkeletonTree$Pieces" D (tyl cI cJ cZ)) (hR1 : 2 ≤ R.frames) (hR2 : 44 ≤ R.locals) (hBA : ∀ q : Nat, B q → A q) {post : (Nat → Int64) → (Nat → Int64) → Int64 → Prop} (hend : ∀ (ti pc : Nat)  (y0 : Nat → Int64) (y1 : Nat → Int64) (y2 : Int64) (lv : List (Nat × Value)), t_Pieces_linkPiece[ti]? = some (pc, .return_, 1) → post  y0 y1 y2 → AW p l e R s m args below meth c D A B 3 Q 0 0 (w_Pieces_linkPiece cI cJ cZ a_t a_firstEnd a_secondEnd a_home a_kindOf a_startAt a_links a_links_near a_links_nearTwice firstEnd secondEnd home y0 y1 y2 slots count) lv pc []) (h : wp_Pieces_linkPiece firstEnd secondEnd home links_near links_nearTwice links_present slots x1 post) : AW p l e R s m args below meth c D A B 3 Q 0 0 (w_Pieces_linkPiece cI cJ cZ a_t a_firstEnd a_secondEnd a_home a_kindOf a_startAt a_links a_links_near a_links_nearTwice firstEnd secondEnd home links_near links_nearTwice links_present slots count) [(0, .ref a_t), (1, .int x1)] 0 [] := by
  unfold wp_Pieces_linkPiece at h
  refine A_aload_n K d_Pieces_linkPiece 0 0 (pc' := 1) rfl rfl rfl rfl ?_
  refine A_get K d_Pieces_linkPiece 1 0 fl_Pieces_30 (pc' := 4) rfl rfl rfl rfl ?_
  refine C_Vv3 K hBA d_Pieces_linkPiece 2 [4, 5, 6] [none, none, none, none, some 0, some 1, some 2] (As := []) (rest := []) (pc' := 7) (wl := fun links_near_1 links_nearTwice_2 links_present_3 => w_Links_clear cI cJ cZ a_links a_links_near a_links_nearTwice links_near_1 links_nearTwice_2 links_present_3) (ws' := fun links_near_1 links_nearTwice_2 links_present_3 => w_Pieces_linkPiece cI cJ cZ a_t a_firstEnd a_secondEnd a_home a_kindOf a_startAt a_links a_links_near a_links_nearTwice firstEnd secondEnd home links_near_1 links_nearTwice_2 links_present_3 slots count) v_Pieces_91 ⟨rfl, rfl, Nat.le_trans (Nat.le_of_ble_eq_true rfl) hR1, Nat.le_trans (Nat.le_of_ble_eq_true rfl) hR2⟩ (fun sz => met_Links_clear l D cI cJ cZ a_links a_links_near a_links_nearTwice links_near links_nearTwice links_present _ sz) h rfl rfl rfl rfl rfl (fun _ _ _ => rfl) rfl (by decide) (Nat.le_of_ble_eq_true rfl) ⟨Nat.zero_le _, Nat.zero_le _⟩ (q0 := 0) rfl rfl (fun _ _ _ => rfl) (fun links_near_1 links_nearTwice_2 links_present_3 h => ?_)
  refine A_iconst K d_Pieces_linkPiece 3 (pc' := 8) (v := 0) rfl rfl (by decide) ?_
  refine A_istore_n K d_Pieces_linkPiece 4 (pc' := 9) (lv' := [(2, .int 0), (0, .ref a_t), (1, .int x1)]) rfl rfl rfl (by decide) rfl ?_
  refine A_lv [1, 2, 0] rfl ?_
  obtain ⟨n_10, h⟩ := h
  refine sL4_ind (fun (i2_4 : Int32) (links_near_5 : Nat → Int64) (links_nearTwice_6 : Nat → Int64) (links_present_7 : Int64) => AW p l e R s m args below meth c D A B 3 Q 0 0 (w_Pieces_linkPiece cI cJ cZ a_t a_firstEnd a_secondEnd a_home a_kindOf a_startAt a_links a_links_near a_links_nearTwice firstEnd secondEnd home links_near_5 links_nearTwice_6 links_present_7 slots count) [(0, .ref a_t), (1, .int x1), (2, .int i2_4)] 9 []) ?_ n_10 _ _ _ _ h
  intro K_8 ih_9 i2_4 links_near_5 links_nearTwice_6 links_present_7 h
  refine A_iload_n K d_Pieces_linkPiece 5 2 (pc' := 10) rfl rfl rfl rfl ?_
  refine A_aload_n K d_Pieces_linkPiece 6 0 (pc' := 11) rfl rfl rfl rfl ?_
  refine A_get K d_Pieces_linkPiece 7 0 fl_Pieces_34 (pc' := 14) rfl rfl rfl rfl ?_
  refine A_icmp_ge K d_Pieces_linkPiece 8 52 (pc' := 17) rfl rfl rfl (fun q => ?_) (fun q => ?_)
  · replace h := h.1 q
    exact hend 28 _ _ _ _ _ rfl h
  · replace h := h.2 q
    refine A_aload_n K d_Pieces_linkPiece 9 0 (pc' := 18) rfl rfl rfl rfl ?_
    refine A_get K d_Pieces_linkPiece 10 0 fl_Pieces_18 (pc' := 21) rfl rfl rfl rfl ?_
    refine A_iload_n K d_Pieces_linkPiece 11 2 (pc' := 22) rfl rfl rfl rfl ?_
    refine A_iald K d_Pieces_linkPiece 12 3 0 (pc' := 23) rfl rfl rfl rfl h.1 ?_
    replace h := h.2
    refine A_iload_n K d_Pieces_linkPiece 13 1 (pc' := 24) rfl rfl rfl rfl ?_
    refine A_icmp_ne K d_Pieces_linkPiece 14 46 (pc' := 27) rfl rfl rfl (fun q => ?_) (fun q => ?_)
    · replace h := h.1 q
      refine A_iinc K d_Pieces_linkPiece 26 2 (pc' := 49) (v := i2_4 + 1) (lv' := [(2, .int (i2_4 + 1)), (0, .ref a_t), (1, .int x1)]) rfl rfl rfl rfl (by decide) rfl ?_
      refine A_goto K d_Pieces_linkPiece 27 (pc' := 9) rfl rfl ?_
      refine A_lv [1, 2, 0] rfl ?_
      exact ih_9 _ _ _ _ h
    · replace h := h.2 q
      refine A_aload_n K d_Pieces_linkPiece 15 0 (pc' := 28) rfl rfl rfl rfl ?_
      refine A_get K d_Pieces_linkPiece 16 0 fl_Pieces_30 (pc' := 31) rfl rfl rfl rfl ?_
      refine A_aload_n K d_Pieces_linkPiece 17 0 (pc' := 32) rfl rfl rfl rfl ?_
      refine A_get K d_Pieces_linkPiece 18 0 fl_Pieces_9 (pc' := 35) rfl rfl rfl rfl ?_
      refine A_iload_n K d_Pieces_linkPiece 19 2 (pc' := 36) rfl rfl rfl rfl ?_
      refine A_iald K d_Pieces_linkPiece 20 1 0 (pc' := 37) rfl rfl rfl rfl h.1 ?_
      replace h := h.2
      refine A_aload_n K d_Pieces_linkPiece 21 0 (pc' := 38) rfl rfl rfl rfl ?_
      refine A_get K d_Pieces_linkPiece 22 0 fl_Pieces_15 (pc' := 41) rfl rfl rfl rfl ?_
      refine A_iload_n K d_Pieces_linkPiece 23 2 (pc' := 42) rfl rfl rfl rfl ?_
      refine A_iald K d_Pieces_linkPiece 24 2 0 (pc' := 43) rfl rfl rfl rfl h.1 ?_
      replace h := h.2
      refine C_Vv3 K hBA d_Pieces_linkPiece 25 [4, 5, 6] [none, none, none, none, some 0, some 1, some 2] (As := [.int (firstEnd (ix i2_4)), .int (secondEnd (ix i2_4))]) (rest := []) (pc' := 46) (wl := fun links_near_11 links_nearTwice_12 links_present_13 => w_Links_link cI cJ cZ a_links a_links_near a_links_nearTwice links_near_11 links_nearTwice_12 links_present_13) (ws' := fun links_near_11 links_nearTwice_12 links_present_13 => w_Pieces_linkPiece cI cJ cZ a_t a_firstEnd a_secondEnd a_home a_kindOf a_startAt a_links a_links_near a_links_nearTwice firstEnd secondEnd home links_near_11 links_nearTwice_12 links_present_13 slots count) v_Pieces_94 ⟨rfl, rfl, Nat.le_trans (Nat.le_of_ble_eq_true rfl) hR1, Nat.le_trans (Nat.le_of_ble_eq_true rfl) hR2⟩ (fun sz => met_Links_link l D cI cJ cZ a_links a_links_near a_links_nearTwice links_near_5 links_nearTwice_6 links_present_7 (firstEnd (ix i2_4)) (secondEnd (ix i2_4)) _ sz) h rfl rfl rfl rfl rfl (fun _ _ _ => rfl) rfl (by decide) (Nat.le_of_ble_eq_true rfl) ⟨Nat.zero_le _, Nat.zero_le _⟩ (q0 := 0) rfl rfl (fun _ _ _ => rfl) (fun links_near_11 links_nearTwice_12 links_present_13 h => ?_)
      refine A_iinc K d_Pieces_linkPiece 26 2 (pc' := 49) (v := i2_4 + 1) (lv' := [(2, .int (i2_4 + 1)), (0, .ref a_t), (1, .int x1)]) rfl rfl rfl rfl (by decide) rfl ?_
      refine A_goto K d_Pieces_linkPiece 27 (pc' := 9) rfl rfl ?_
      refine A_lv [1, 2, 0] rfl ?_
      exact ih_9 _ _ _ _ h
theorem met_Pieces_linkPiece (l : Launch) (D : va_G) (cI cJ cZ : ClassId) (a_t a_firstEnd a_secondEnd a_home a_kindOf a_startAt a_links a_links_near a_links_nearTwice : Nat) (firstEnd : Nat → Int32) (secondEnd : Nat → Int32) (home : Nat → Int32) (links_near : Nat → Int64) (links_nearTwice : Nat → Int64) (links_present : Int64) (slots : Int32) (count : Int32) (x1 : Int32) (post : (Nat → Int64) → (Nat → Int64) → Int64 → Prop) (sz : Nat) : Met l y_Pieces_linkPiece (Cond.code y_Pieces_linkPiece c_Pieces_linkPiece 3 (Option.none : Option Jvm.ClassFile.FieldType) :: GW) { frames := 2, cells := 0, slots := 0, locals := 44 } (va_Pc [.ref a_t, .int x1] (fun U => sk_P D (tyl cI cJ cZ) (w_Pieces_linkPiece cI cJ cZ a_t a_firstEnd a_secondEnd a_home a_kindOf a_startAt a_links a_links_near a_links_nearTwice firstEnd secondEnd home links_near links_nearTwice links_present slots count) sz U ∧ wp_Pieces_linkPiece firstEnd secondEnd home links_near links_nearTwice links_present slots x1 post)) (va_Qv (fun (u : (Nat → Int64) × (Nat → Int64) × Int64) => post  u.1 u.2.1 u.2.2) (fun u t => sk_B D (tyl cI cJ cZ) (w_Pieces_linkPiece cI cJ cZ a_t a_firstEnd a_secondEnd a_home a_kindOf a_startAt a_links a_links_near a_links_nearTwice firstEnd secondEnd home u.1 u.2.1 u.2.2 slots count) (va_A (w_Pieces_linkPiece cI cJ cZ a_t a_firstEnd a_secondEnd a_home a_kindOf a_startAt a_links a_links_near a_links_nearTwice firstEnd secondEnd home links_near links_nearTwice links_present slots count) sz) t) (va_A (w_Pieces_linkPiece cI cJ cZ a_t a_firstEnd a_secondEnd a_home a_kindOf a_startAt a_links a_links_near a_links_nearTwice firstEnd secondEnd home links_near links_nearTwice links_present slots count) sz)) 0 0 (va_A (w_Pieces_linkPiece cI cJ cZ a_t a_firstEnd a_secondEnd a_home a_kindOf a_startAt a_links a_links_near a_links_nearTwice firstEnd secondEnd home links_near links_nearTwice links_present slots count) sz) :=
  sk_intro (by decide) (Nat.le_of_ble_eq_true rfl) (fun p e s m below meth c K hr _ h => bd_Pieces_linkPiece K (Nat.le_refl _) (Nat.le_refl _) (fun _ z => z) (fun ti pc y0 y1 y2 lv hd hp => A_vret K d_Pieces_linkPiece ti hr (post := (fun (u : (Nat → Int64) × (Nat → Int64) × Int64) => post  u.1 u.2.1 u.2.2)) (wl := fun (u : (Nat → Int64) × (Nat → Int64) × Int64) => w_Pieces_linkPiece cI cJ cZ a_t a_firstEnd a_secondEnd a_home a_kindOf a_startAt a_links a_links_near a_links_nearTwice firstEnd secondEnd home u.1 u.2.1 u.2.2 slots count) (y0, y1, y2) hd hp) h)
/-! SkeletonTree$Pieces.splitOff(III)V -/
def t_Pieces_splitOff : List (Nat × Instr × Nat) := [(0, .aload_n 0, 1), (1, .getfield 30, 3), (4, .aload_n 0, 1), (5, .getfield 30, 3), (8, .getfield 58, 3), (11, .iload_n 2, 1), (12, .invokestatic 77, 3), (15, .ldc2_w 81, 3), (18, .lxor, 1), (19, .land, 1), (20, .iload_n 3, 1), (21, .invokestatic 77, 3), (24, .ldc2_w 81, 3), (27, .lxor, 1), (28, .land, 1), (29, .invokevirtual 83, 3), (32, .lstore 4, 2), (34, .aload_n 0, 1), (35, .getfield 38, 3), (38, .istore 6, 2), (40, .aload_n 0, 1), (41, .dup, 1), (42, .getfield 38, 3), (45, .iconst 1, 1), (46, .iadd, 1), (47, .putfield 38, 3), (50, .aload_n 0, 1), (51, .getfield 24, 3), (54, .iload 6, 2), (56, .iload_n 2, 1), (57, .iastore, 1), (58, .iconst 0, 1), (59, .istore 7, 2), (61, .iload 7, 2), (63, .aload_n 0, 1), (64, .getfield 34, 3), (67, .if_icmp .ge 59, 3), (70, .aload_n 0, 1), (71, .getfield 18, 3), (74, .iload 7, 2), (76, .iaload, 1), (77, .iload_n 1, 1), (78, .if_icmp .ne 42, 3), (81, .lload 4, 2), (83, .aload_n 0, 1), (84, .getfield 9, 3), (87, .iload 7, 2), (89, .iaload, 1), (90, .invokestatic 62, 3), (93, .ifCond .ne 18, 3), (96, .lload 4, 2), (98, .aload_n 0, 1), (99, .getfield 15, 3), (102, .iload 7, 2), (104, .iaload, 1), (105, .invokestatic 62, 3), (108, .ifCond .eq 12, 3), (111, .aload_n 0, 1), (112, .getfield 18, 3), (115, .iload 7, 2), (117, .iload 6, 2), (119, .iastore, 1), (120, .iinc 7 1, 3), (123, .goto (-62), 3), (126, .aload_n 0, 1), (127, .aload_n 0, 1), (128, .getfield 34, 3), (131, .iload_n 2, 1), (132, .iload_n 3, 1), (133, .iload_n 1, 1), (134, .invokevirtual 87, 3), (137, .aload_n 0, 1), (138, .aload_n 0, 1), (139, .getfield 34, 3), (142, .iconst 1, 1), (143, .iadd, 1), (144, .iload_n 2, 1), (145, .iload_n 3, 1), (146, .iload 6, 2), (148, .invokevirtual 87, 3), (151, .aload_n 0, 1), (152, .dup, 1), (153, .getfield 34, 3), (156, .iconst 2, 1), (157, .iadd, 1), (158, .putfield 34, 3), (161, .return_, 1)]
set_option maxRecDepth 100000 in
theorem d_Pieces_splitOff : sk_T c_Pieces_splitOff t_Pieces_splitOff := by unfold sk_T t_Pieces_splitOff; decide +kernel
def w_Pieces_splitOff (cI cJ cZ : ClassId) (a_t a_firstEnd a_secondEnd a_home a_kindOf a_startAt a_links a_links_near a_links_nearTwice : Nat) (firstEnd : Nat → Int32) (secondEnd : Nat → Int32) (home : Nat → Int32) (startAt : Nat → Int32) (links_near : Nat → Int64) (links_present : Int64) (slots : Int32) (count : Int32) : va_W := [(a_t, .inr (3, [.ref a_firstEnd, .ref a_secondEnd, .ref a_home, .ref a_kindOf, .ref a_startAt, .ref a_links, .int slots, .int count])), (a_firstEnd, .inl (cI, 294, .inl firstEnd)), (a_secondEnd, .inl (cI, 294, .inl secondEnd)), (a_home, .inl (cI, 294, .inl home)), (a_startAt, .inl (cI, 98, .inl startAt)), (a_links, .inr (0, [.ref a_links_near, .ref a_links_nearTwice, .long links_present])), (a_links_near, .inl (cJ, 40, .inr (.inl links_near)))]
def wp_Pieces_splitOff  (firstEnd : Nat → Int32) (secondEnd : Nat → Int32) (home : Nat → Int32) (startAt : Nat → Int32) (links_near : Nat → Int64) (links_present : Int64) (slots : Int32) (count : Int32) (x1 : Int32) (x2 : Int32) (x3 : Int32) (post : (Nat → Int32) → (Nat → Int32) → (Nat → Int32) → (Nat → Int32) → Int32 → Int32 → Prop) : Prop :=
  wp_Tree_only x2 (fun r_1 => wp_Tree_only x3 (fun r_2 => ∀ x_3 : Int64, x_3 = (links_present &&& (r_1 ^^^ (-1))) &&& (r_2 ^^^ (-1)) → wp_Links_reach links_near x_3 (fun r_5 => vp_in count 98 ∧ ∀ startAt_6 : Nat → Int32, startAt_6 = upd startAt (ix count) x2 → ∃ n, sL2 (fun (K_10 : Int32 → (Nat → Int32) → Prop) (i7_8 : Int32) (home_9 : Nat → Int32) => (slots ≤ i7_8 → wp_Pieces_place firstEnd secondEnd home_9 slots x2 x3 x1 (fun firstEnd_13 secondEnd_14 home_15 => wp_Pieces_place firstEnd_13 secondEnd_14 home_15 (slots + 1) x2 x3 count (fun firstEnd_16 secondEnd_17 home_18 => post firstEnd_16 secondEnd_17 home_18 startAt_6 (slots + 2) (count + 1)))) ∧ (¬ slots ≤ i7_8 → vp_in i7_8 294 ∧ (¬ (home_9 (ix i7_8)) = x1 → K_10 (i7_8 + 1) home_9) ∧ ((home_9 (ix i7_8)) = x1 → vp_in i7_8 294 ∧ wp_Tree_holds r_5 (firstEnd (ix i7_8)) (fun r_19 => (¬ r_19 = 0 → vp_in i7_8 294 ∧ ∀ home_20 : Nat → Int32, home_20 = upd home_9 (ix i7_8) count → K_10 (i7_8 + 1) home_20) ∧ (r_19 = 0 → vp_in i7_8 294 ∧ wp_Tree_holds r_5 (secondEnd (ix i7_8)) (fun r_22 => (r_22 = 0 → K_10 (i7_8 + 1) home_9) ∧ (¬ r_22 = 0 → vp_in i7_8 294 ∧ ∀ home_23 : Nat → Int32, home_23 = upd home_9 (ix i7_8) count → K_10 (i7_8 + 1) home_23))))))) n 0 home)))
set_option maxHeartbeats 4000000 in
set_option maxRecDepth 100000 in
theorem bd_Pieces_splitOff {p : Program} {l : Launch} {e : Env} {R : Room} {s : State} {m : MethodId} {args : Array Value} {below : List Frame} {meth : Method} {c : Code} {D : va_G} {A B : Nat → Prop} {Q : State → Prop} {cI cJ cZ : ClassId} {a_t a_firstEnd a_secondEnd a_home a_kindOf a_startAt a_links a_links_near a_links_nearTwice : Nat} {firstEnd : Nat → Int32} {secondEnd : Nat → Int32} {home : Nat → Int32} {startAt : Nat → Int32} {links_near : Nat → Int64} {links_present : Int64} {slots : Int32} {count : Int32} {x1 : Int32} {x2 : Int32} {x3 : Int32} (K : sk_C p s m args meth c c_Pieces_splitOff 8 "SkeletonTree$Pieces" D (tyl cI cJ cZ)) (hR1 : 2 ≤ R.frames) (hR2 : 52 ≤ R.locals) (hBA : ∀ q : Nat, B q → A q) {post : (Nat → Int32) → (Nat → Int32) → (Nat → Int32) → (Nat → Int32) → Int32 → Int32 → Prop} (hend : ∀ (ti pc : Nat)  (y0 : Nat → Int32) (y1 : Nat → Int32) (y2 : Nat → Int32) (y3 : Nat → Int32) (y4 : Int32) (y5 : Int32) (lv : List (Nat × Value)), t_Pieces_splitOff[ti]? = some (pc, .return_, 1) → post  y0 y1 y2 y3 y4 y5 → AW p l e R s m args below meth c D A B 8 Q 0 0 (w_Pieces_splitOff cI cJ cZ a_t a_firstEnd a_secondEnd a_home a_kindOf a_startAt a_links a_links_near a_links_nearTwice y0 y1 y2 y3 links_near links_present y4 y5) lv pc []) (h : wp_Pieces_splitOff firstEnd secondEnd home startAt links_near links_present slots count x1 x2 x3 post) : AW p l e R s m args below meth c D A B 8 Q 0 0 (w_Pieces_splitOff cI cJ cZ a_t a_firstEnd a_secondEnd a_home a_kindOf a_startAt a_links a_links_near a_links_nearTwice firstEnd secondEnd home startAt links_near links_present slots count) [(0, .ref a_t), (1, .int x1), (2, .int x2), (3, .int x3)] 0 [] := by
  unfold wp_Pieces_splitOff at h
  refine A_aload_n K d_Pieces_splitOff 0 0 (pc' := 1) rfl rfl rfl rfl ?_
  refine A_get K d_Pieces_splitOff 1 0 fl_Pieces_30 (pc' := 4) rfl rfl rfl rfl ?_
  refine A_aload_n K d_Pieces_splitOff 2 0 (pc' := 5) rfl rfl rfl rfl ?_
  refine A_get K d_Pieces_splitOff 3 0 fl_Pieces_30 (pc' := 8) rfl rfl rfl rfl ?_
  refine A_get K d_Pieces_splitOff 4 5 fl_Pieces_58 (pc' := 11) rfl rfl rfl rfl ?_
  refine A_iload_n K d_Pieces_splitOff 5 2 (pc' := 12) rfl rfl rfl rfl ?_
  refine R_callSN_l K d_Pieces_splitOff 6 [] (As := [.int x2]) (rest := [.long links_present, .ref a_links]) (pc' := 15) v_Pieces_77 ⟨rfl, rfl, Nat.le_trans (Nat.le_of_ble_eq_true rfl) hR1, Nat.le_trans (Nat.le_of_ble_eq_true rfl) hR2⟩ (fun sz => met_Tree_only l D cI cJ cZ x2 _ sz) h rfl rfl rfl rfl rfl rfl (Nat.le_of_ble_eq_true rfl) ⟨Nat.zero_le _, Nat.zero_le _⟩ (fun r_1 h => ?_)
  refine A_ldc2 K d_Pieces_splitOff 7 g_323 (v := (-1)) (pc' := 18) rfl rfl ?_
  refine A_lxor K d_Pieces_splitOff 8 (pc' := 19) rfl rfl ?_
  refine A_land K d_Pieces_splitOff 9 (pc' := 20) rfl rfl ?_
  refine A_iload_n K d_Pieces_splitOff 10 3 (pc' := 21) rfl rfl rfl rfl ?_
  refine R_callSN_l K d_Pieces_splitOff 11 [] (As := [.int x3]) (rest := [.long (links_present &&& (r_1 ^^^ (-1))), .ref a_links]) (pc' := 24) v_Pieces_77 ⟨rfl, rfl, Nat.le_trans (Nat.le_of_ble_eq_true rfl) hR1, Nat.le_trans (Nat.le_of_ble_eq_true rfl) hR2⟩ (fun sz => met_Tree_only l D cI cJ cZ x3 _ sz) h rfl rfl rfl rfl rfl rfl (Nat.le_of_ble_eq_true rfl) ⟨Nat.zero_le _, Nat.zero_le _⟩ (fun r_2 h => ?_)
  refine A_ldc2 K d_Pieces_splitOff 12 g_323 (v := (-1)) (pc' := 27) rfl rfl ?_
  refine A_lxor K d_Pieces_splitOff 13 (pc' := 28) rfl rfl ?_
  refine A_land K d_Pieces_splitOff 14 (pc' := 29) rfl rfl ?_
  refine A_topl (fun x_3 e_4 => ?_)
  replace h := h x_3 e_4
  refine R_callV_l K d_Pieces_splitOff 15 [5, 6] (As := [.long x_3]) (rest := []) (pc' := 32) v_Pieces_83 ⟨rfl, rfl, Nat.le_trans (Nat.le_of_ble_eq_true rfl) hR1, Nat.le_trans (Nat.le_of_ble_eq_true rfl) hR2⟩ (fun sz => met_Links_reach l D cI cJ cZ a_links a_links_near a_links_nearTwice links_near links_present x_3 _ sz) h rfl rfl rfl rfl rfl rfl (Nat.le_of_ble_eq_true rfl) ⟨Nat.zero_le _, Nat.zero_le _⟩ (q0 := 0) rfl rfl (fun r_5 h => ?_)
  refine A_lstore K d_Pieces_splitOff 16 (pc' := 34) (lv' := [(4, .long r_5), (0, .ref a_t), (1, .int x1), (2, .int x2), (3, .int x3)]) rfl rfl (by decide) rfl ?_
  refine A_aload_n K d_Pieces_splitOff 17 1 (pc' := 35) rfl rfl rfl rfl ?_
  refine A_get K d_Pieces_splitOff 18 0 fl_Pieces_38 (pc' := 38) rfl rfl rfl rfl ?_
  refine A_istore K d_Pieces_splitOff 19 (pc' := 40) (lv' := [(6, .int count), (4, .long r_5), (0, .ref a_t), (1, .int x1), (2, .int x2), (3, .int x3)]) rfl rfl (by decide) rfl ?_
  refine A_aload_n K d_Pieces_splitOff 20 2 (pc' := 41) rfl rfl rfl rfl ?_
  refine A_dup K d_Pieces_splitOff 21 (pc' := 42) rfl rfl rfl ?_
  refine A_get K d_Pieces_splitOff 22 0 fl_Pieces_38 (pc' := 45) rfl rfl rfl rfl ?_
  refine A_iconst K d_Pieces_splitOff 23 (pc' := 46) (v := 1) rfl rfl (by decide) ?_
  refine A_iadd K d_Pieces_splitOff 24 (pc' := 47) rfl rfl ?_
  refine A_put K hBA d_Pieces_splitOff 25 0 fp_Pieces_38 (pc' := 50) (ws' := w_Pieces_splitOff cI cJ cZ a_t a_firstEnd a_secondEnd a_home a_kindOf a_startAt a_links a_links_near a_links_nearTwice firstEnd secondEnd home startAt links_near links_present slots (count + 1)) rfl rfl rfl (Nat.le_of_ble_eq_true rfl) rfl rfl rfl ?_
  refine A_aload_n K d_Pieces_splitOff 26 2 (pc' := 51) rfl rfl rfl rfl ?_
  refine A_get K d_Pieces_splitOff 27 0 fl_Pieces_24 (pc' := 54) rfl rfl rfl rfl ?_
  refine A_iload K d_Pieces_splitOff 28 0 (pc' := 56) rfl rfl rfl ?_
  refine A_iload_n K d_Pieces_splitOff 29 4 (pc' := 57) rfl rfl rfl rfl ?_
  refine A_iastN K hBA d_Pieces_splitOff 30 4 0 (pc' := 58) (ws' := fun startAt_6 => w_Pieces_splitOff cI cJ cZ a_t a_firstEnd a_secondEnd a_home a_kindOf a_startAt a_links a_links_near a_links_nearTwice firstEnd secondEnd home startAt_6 links_near links_present slots (count + 1)) rfl rfl rfl rfl h.1 (fun _ => rfl) (fun startAt_6 e_7 => ?_)
  replace h := h.2 startAt_6 e_7
  refine A_iconst K d_Pieces_splitOff 31 (pc' := 59) (v := 0) rfl rfl (by decide) ?_
  refine A_istore K d_Pieces_splitOff 32 (pc' := 61) (lv' := [(7, .int 0), (6, .int count), (4, .long r_5), (0, .ref a_t), (1, .int x1), (2, .int x2), (3, .int x3)]) rfl rfl (by decide) rfl ?_
  refine A_lv [3, 4, 5, 6, 2, 1, 0] rfl ?_
  obtain ⟨n_12, h⟩ := h
  refine sL2_ind (fun (i7_8 : Int32) (home_9 : Nat → Int32) => AW p l e R s m args below meth c D A B 8 Q 0 0 (w_Pieces_splitOff cI cJ cZ a_t a_firstEnd a_secondEnd a_home a_kindOf a_startAt a_links a_links_near a_links_nearTwice firstEnd secondEnd home_9 startAt_6 links_near links_present slots (count + 1)) [(0, .ref a_t), (1, .int x1), (2, .int x2), (3, .int x3), (4, .long r_5), (6, .int count), (7, .int i7_8)] 61 []) ?_ n_12 _ _ h
  intro K_10 ih_11 i7_8 home_9 h
  refine A_iload K d_Pieces_splitOff 33 6 (pc' := 63) rfl rfl rfl ?_
  refine A_aload_n K d_Pieces_splitOff 34 0 (pc' := 64) rfl rfl rfl rfl ?_
  refine A_get K d_Pieces_splitOff 35 0 fl_Pieces_34 (pc' := 67) rfl rfl rfl rfl ?_
  refine A_icmp_ge K d_Pieces_splitOff 36 126 (pc' := 70) rfl rfl rfl (fun q => ?_) (fun q => ?_)
  · replace h := h.1 q
    refine A_aload_n K d_Pieces_splitOff 64 0 (pc' := 127) rfl rfl rfl rfl ?_
    refine A_aload_n K d_Pieces_splitOff 65 0 (pc' := 128) rfl rfl rfl rfl ?_
    refine A_get K d_Pieces_splitOff 66 0 fl_Pieces_34 (pc' := 131) rfl rfl rfl rfl ?_
    refine A_iload_n K d_Pieces_splitOff 67 2 (pc' := 132) rfl rfl rfl rfl ?_
    refine A_iload_n K d_Pieces_splitOff 68 3 (pc' := 133) rfl rfl rfl rfl ?_
    refine A_iload_n K d_Pieces_splitOff 69 1 (pc' := 134) rfl rfl rfl rfl ?_
    refine C_Vv3 K hBA d_Pieces_splitOff 70 [0, 1, 2, 3] [some 0, some 1, some 2, some 3, none, none, none] (As := [.int slots, .int x2, .int x3, .int x1]) (rest := []) (pc' := 137) (wl := fun firstEnd_13 secondEnd_14 home_15 => w_Pieces_place cI cJ cZ a_t a_firstEnd a_secondEnd a_home a_kindOf a_startAt a_links firstEnd_13 secondEnd_14 home_15 slots (count + 1)) (ws' := fun firstEnd_13 secondEnd_14 home_15 => w_Pieces_splitOff cI cJ cZ a_t a_firstEnd a_secondEnd a_home a_kindOf a_startAt a_links a_links_near a_links_nearTwice firstEnd_13 secondEnd_14 home_15 startAt_6 links_near links_present slots (count + 1)) v_Pieces_87 ⟨rfl, rfl, Nat.le_trans (Nat.le_of_ble_eq_true rfl) hR1, Nat.le_trans (Nat.le_of_ble_eq_true rfl) hR2⟩ (fun sz => met_Pieces_place l D cI cJ cZ a_t a_firstEnd a_secondEnd a_home a_kindOf a_startAt a_links firstEnd secondEnd home_9 slots (count + 1) slots x2 x3 x1 _ sz) h rfl rfl rfl rfl rfl (fun _ _ _ => rfl) rfl (by decide) (Nat.le_of_ble_eq_true rfl) ⟨Nat.zero_le _, Nat.zero_le _⟩ (q0 := 0) rfl rfl (fun _ _ _ => rfl) (fun firstEnd_13 secondEnd_14 home_15 h => ?_)
    refine A_aload_n K d_Pieces_splitOff 71 0 (pc' := 138) rfl rfl rfl rfl ?_
    refine A_aload_n K d_Pieces_splitOff 72 0 (pc' := 139) rfl rfl rfl rfl ?_
    refine A_get K d_Pieces_splitOff 73 0 fl_Pieces_34 (pc' := 142) rfl rfl rfl rfl ?_
    refine A_iconst K d_Pieces_splitOff 74 (pc' := 143) (v := 1) rfl rfl (by decide) ?_
    refine A_iadd K d_Pieces_splitOff 75 (pc' := 144) rfl rfl ?_
    refine A_iload_n K d_Pieces_splitOff 76 2 (pc' := 145) rfl rfl rfl rfl ?_
    refine A_iload_n K d_Pieces_splitOff 77 3 (pc' := 146) rfl rfl rfl rfl ?_
    refine A_iload K d_Pieces_splitOff 78 5 (pc' := 148) rfl rfl rfl ?_
    refine C_Vv3 K hBA d_Pieces_splitOff 79 [0, 1, 2, 3] [some 0, some 1, some 2, some 3, none, none, none] (As := [.int (slots + 1), .int x2, .int x3, .int count]) (rest := []) (pc' := 151) (wl := fun firstEnd_16 secondEnd_17 home_18 => w_Pieces_place cI cJ cZ a_t a_firstEnd a_secondEnd a_home a_kindOf a_startAt a_links firstEnd_16 secondEnd_17 home_18 slots (count + 1)) (ws' := fun firstEnd_16 secondEnd_17 home_18 => w_Pieces_splitOff cI cJ cZ a_t a_firstEnd a_secondEnd a_home a_kindOf a_startAt a_links a_links_near a_links_nearTwice firstEnd_16 secondEnd_17 home_18 startAt_6 links_near links_present slots (count + 1)) v_Pieces_87 ⟨rfl, rfl, Nat.le_trans (Nat.le_of_ble_eq_true rfl) hR1, Nat.le_trans (Nat.le_of_ble_eq_true rfl) hR2⟩ (fun sz => met_Pieces_place l D cI cJ cZ a_t a_firstEnd a_secondEnd a_home a_kindOf a_startAt a_links firstEnd_13 secondEnd_14 home_15 slots (count + 1) (slots + 1) x2 x3 count _ sz) h rfl rfl rfl rfl rfl (fun _ _ _ => rfl) rfl (by decide) (Nat.le_of_ble_eq_true rfl) ⟨Nat.zero_le _, Nat.zero_le _⟩ (q0 := 0) rfl rfl (fun _ _ _ => rfl) (fun firstEnd_16 secondEnd_17 home_18 h => ?_)
    refine A_aload_n K d_Pieces_splitOff 80 0 (pc' := 152) rfl rfl rfl rfl ?_
    refine A_dup K d_Pieces_splitOff 81 (pc' := 153) rfl rfl rfl ?_
    refine A_get K d_Pieces_splitOff 82 0 fl_Pieces_34 (pc' := 156) rfl rfl rfl rfl ?_
    refine A_iconst K d_Pieces_splitOff 83 (pc' := 157) (v := 2) rfl rfl (by decide) ?_
    refine A_iadd K d_Pieces_splitOff 84 (pc' := 158) rfl rfl ?_
    refine A_put K hBA d_Pieces_splitOff 85 0 fp_Pieces_34 (pc' := 161) (ws' := w_Pieces_splitOff cI cJ cZ a_t a_firstEnd a_secondEnd a_home a_kindOf a_startAt a_links a_links_near a_links_nearTwice firstEnd_16 secondEnd_17 home_18 startAt_6 links_near links_present (slots + 2) (count + 1)) rfl rfl rfl (Nat.le_of_ble_eq_true rfl) rfl rfl rfl ?_
    exact hend 86 _ _ _ _ _ _ _ _ rfl h
  · replace h := h.2 q
    refine A_aload_n K d_Pieces_splitOff 37 0 (pc' := 71) rfl rfl rfl rfl ?_
    refine A_get K d_Pieces_splitOff 38 0 fl_Pieces_18 (pc' := 74) rfl rfl rfl rfl ?_
    refine A_iload K d_Pieces_splitOff 39 6 (pc' := 76) rfl rfl rfl ?_
    refine A_iald K d_Pieces_splitOff 40 3 0 (pc' := 77) rfl rfl rfl rfl h.1 ?_
    replace h := h.2
    refine A_iload_n K d_Pieces_splitOff 41 1 (pc' := 78) rfl rfl rfl rfl ?_
    refine A_icmp_ne K d_Pieces_splitOff 42 120 (pc' := 81) rfl rfl rfl (fun q => ?_) (fun q => ?_)
    · replace h := h.1 q
      refine A_iinc K d_Pieces_splitOff 62 6 (pc' := 123) (v := i7_8 + 1) (lv' := [(7, .int (i7_8 + 1)), (0, .ref a_t), (1, .int x1), (2, .int x2), (3, .int x3), (4, .long r_5), (6, .int count)]) rfl rfl rfl rfl (by decide) rfl ?_
      refine A_goto K d_Pieces_splitOff 63 (pc' := 61) rfl rfl ?_
      refine A_lv [1, 2, 3, 4, 5, 6, 0] rfl ?_
      exact ih_11 _ _ h
    · replace h := h.2 q
      refine A_lload K d_Pieces_splitOff 43 4 (pc' := 83) rfl rfl rfl ?_
      refine A_aload_n K d_Pieces_splitOff 44 0 (pc' := 84) rfl rfl rfl rfl ?_
      refine A_get K d_Pieces_splitOff 45 0 fl_Pieces_9 (pc' := 87) rfl rfl rfl rfl ?_
      refine A_iload K d_Pieces_splitOff 46 6 (pc' := 89) rfl rfl rfl ?_
      refine A_iald K d_Pieces_splitOff 47 1 0 (pc' := 90) rfl rfl rfl rfl h.1 ?_
      replace h := h.2
      refine R_callSN_i K d_Pieces_splitOff 48 [] (As := [.long r_5, .int (firstEnd (ix i7_8))]) (rest := []) (pc' := 93) v_Pieces_62 ⟨rfl, rfl, Nat.le_trans (Nat.le_of_ble_eq_true rfl) hR1, Nat.le_trans (Nat.le_of_ble_eq_true rfl) hR2⟩ (fun sz => met_Tree_holds l D cI cJ cZ r_5 (firstEnd (ix i7_8)) _ sz) h rfl rfl rfl rfl rfl rfl (Nat.le_of_ble_eq_true rfl) ⟨Nat.zero_le _, Nat.zero_le _⟩ (fun r_19 h => ?_)
      refine A_if_ne K d_Pieces_splitOff 49 111 (pc' := 96) rfl rfl rfl (fun q => ?_) (fun q => ?_)
      · replace h := h.1 q
        refine A_aload_n K d_Pieces_splitOff 57 0 (pc' := 112) rfl rfl rfl rfl ?_
        refine A_get K d_Pieces_splitOff 58 0 fl_Pieces_18 (pc' := 115) rfl rfl rfl rfl ?_
        refine A_iload K d_Pieces_splitOff 59 6 (pc' := 117) rfl rfl rfl ?_
        refine A_iload K d_Pieces_splitOff 60 5 (pc' := 119) rfl rfl rfl ?_
        refine A_iastN K hBA d_Pieces_splitOff 61 3 0 (pc' := 120) (ws' := fun home_20 => w_Pieces_splitOff cI cJ cZ a_t a_firstEnd a_secondEnd a_home a_kindOf a_startAt a_links a_links_near a_links_nearTwice firstEnd secondEnd home_20 startAt_6 links_near links_present slots (count + 1)) rfl rfl rfl rfl h.1 (fun _ => rfl) (fun home_20 e_21 => ?_)
        replace h := h.2 home_20 e_21
        refine A_iinc K d_Pieces_splitOff 62 6 (pc' := 123) (v := i7_8 + 1) (lv' := [(7, .int (i7_8 + 1)), (0, .ref a_t), (1, .int x1), (2, .int x2), (3, .int x3), (4, .long r_5), (6, .int count)]) rfl rfl rfl rfl (by decide) rfl ?_
        refine A_goto K d_Pieces_splitOff 63 (pc' := 61) rfl rfl ?_
        refine A_lv [1, 2, 3, 4, 5, 6, 0] rfl ?_
        exact ih_11 _ _ h
      · replace h := h.2 q
        refine A_lload K d_Pieces_splitOff 50 4 (pc' := 98) rfl rfl rfl ?_
        refine A_aload_n K d_Pieces_splitOff 51 0 (pc' := 99) rfl rfl rfl rfl ?_
        refine A_get K d_Pieces_splitOff 52 0 fl_Pieces_15 (pc' := 102) rfl rfl rfl rfl ?_
        refine A_iload K d_Pieces_splitOff 53 6 (pc' := 104) rfl rfl rfl ?_
        refine A_iald K d_Pieces_splitOff 54 2 0 (pc' := 105) rfl rfl rfl rfl h.1 ?_
        replace h := h.2
        refine R_callSN_i K d_Pieces_splitOff 55 [] (As := [.long r_5, .int (secondEnd (ix i7_8))]) (rest := []) (pc' := 108) v_Pieces_62 ⟨rfl, rfl, Nat.le_trans (Nat.le_of_ble_eq_true rfl) hR1, Nat.le_trans (Nat.le_of_ble_eq_true rfl) hR2⟩ (fun sz => met_Tree_holds l D cI cJ cZ r_5 (secondEnd (ix i7_8)) _ sz) h rfl rfl rfl rfl rfl rfl (Nat.le_of_ble_eq_true rfl) ⟨Nat.zero_le _, Nat.zero_le _⟩ (fun r_22 h => ?_)
        refine A_if_eq K d_Pieces_splitOff 56 120 (pc' := 111) rfl rfl rfl (fun q => ?_) (fun q => ?_)
        · replace h := h.1 q
          refine A_iinc K d_Pieces_splitOff 62 6 (pc' := 123) (v := i7_8 + 1) (lv' := [(7, .int (i7_8 + 1)), (0, .ref a_t), (1, .int x1), (2, .int x2), (3, .int x3), (4, .long r_5), (6, .int count)]) rfl rfl rfl rfl (by decide) rfl ?_
          refine A_goto K d_Pieces_splitOff 63 (pc' := 61) rfl rfl ?_
          refine A_lv [1, 2, 3, 4, 5, 6, 0] rfl ?_
          exact ih_11 _ _ h
        · replace h := h.2 q
          refine A_aload_n K d_Pieces_splitOff 57 0 (pc' := 112) rfl rfl rfl rfl ?_
          refine A_get K d_Pieces_splitOff 58 0 fl_Pieces_18 (pc' := 115) rfl rfl rfl rfl ?_
          refine A_iload K d_Pieces_splitOff 59 6 (pc' := 117) rfl rfl rfl ?_
          refine A_iload K d_Pieces_splitOff 60 5 (pc' := 119) rfl rfl rfl ?_
          refine A_iastN K hBA d_Pieces_splitOff 61 3 0 (pc' := 120) (ws' := fun home_23 => w_Pieces_splitOff cI cJ cZ a_t a_firstEnd a_secondEnd a_home a_kindOf a_startAt a_links a_links_near a_links_nearTwice firstEnd secondEnd home_23 startAt_6 links_near links_present slots (count + 1)) rfl rfl rfl rfl h.1 (fun _ => rfl) (fun home_23 e_24 => ?_)
          replace h := h.2 home_23 e_24
          refine A_iinc K d_Pieces_splitOff 62 6 (pc' := 123) (v := i7_8 + 1) (lv' := [(7, .int (i7_8 + 1)), (0, .ref a_t), (1, .int x1), (2, .int x2), (3, .int x3), (4, .long r_5), (6, .int count)]) rfl rfl rfl rfl (by decide) rfl ?_
          refine A_goto K d_Pieces_splitOff 63 (pc' := 61) rfl rfl ?_
          refine A_lv [1, 2, 3, 4, 5, 6, 0] rfl ?_
          exact ih_11 _ _ h
theorem met_Pieces_splitOff (l : Launch) (D : va_G) (cI cJ cZ : ClassId) (a_t a_firstEnd a_secondEnd a_home a_kindOf a_startAt a_links a_links_near a_links_nearTwice : Nat) (firstEnd : Nat → Int32) (secondEnd : Nat → Int32) (home : Nat → Int32) (startAt : Nat → Int32) (links_near : Nat → Int64) (links_present : Int64) (slots : Int32) (count : Int32) (x1 : Int32) (x2 : Int32) (x3 : Int32) (post : (Nat → Int32) → (Nat → Int32) → (Nat → Int32) → (Nat → Int32) → Int32 → Int32 → Prop) (sz : Nat) : Met l y_Pieces_splitOff (Cond.code y_Pieces_splitOff c_Pieces_splitOff 8 (Option.none : Option Jvm.ClassFile.FieldType) :: GW) { frames := 2, cells := 0, slots := 0, locals := 52 } (va_Pc [.ref a_t, .int x1, .int x2, .int x3] (fun U => sk_P D (tyl cI cJ cZ) (w_Pieces_splitOff cI cJ cZ a_t a_firstEnd a_secondEnd a_home a_kindOf a_startAt a_links a_links_near a_links_nearTwice firstEnd secondEnd home startAt links_near links_present slots count) sz U ∧ wp_Pieces_splitOff firstEnd secondEnd home startAt links_near links_present slots count x1 x2 x3 post)) (va_Qv (fun (u : (Nat → Int32) × (Nat → Int32) × (Nat → Int32) × (Nat → Int32) × Int32 × Int32) => post  u.1 u.2.1 u.2.2.1 u.2.2.2.1 u.2.2.2.2.1 u.2.2.2.2.2) (fun u t => sk_B D (tyl cI cJ cZ) (w_Pieces_splitOff cI cJ cZ a_t a_firstEnd a_secondEnd a_home a_kindOf a_startAt a_links a_links_near a_links_nearTwice u.1 u.2.1 u.2.2.1 u.2.2.2.1 links_near links_present u.2.2.2.2.1 u.2.2.2.2.2) (va_A (w_Pieces_splitOff cI cJ cZ a_t a_firstEnd a_secondEnd a_home a_kindOf a_startAt a_links a_links_near a_links_nearTwice firstEnd secondEnd home startAt links_near links_present slots count) sz) t) (va_A (w_Pieces_splitOff cI cJ cZ a_t a_firstEnd a_secondEnd a_home a_kindOf a_startAt a_links a_links_near a_links_nearTwice firstEnd secondEnd home startAt links_near links_present slots count) sz)) 0 0 (va_A (w_Pieces_splitOff cI cJ cZ a_t a_firstEnd a_secondEnd a_home a_kindOf a_startAt a_links a_links_near a_links_nearTwice firstEnd secondEnd home startAt links_near links_present slots count) sz) :=
  sk_intro (by decide) (Nat.le_of_ble_eq_true rfl) (fun p e s m below meth c K hr _ h => bd_Pieces_splitOff K (Nat.le_refl _) (Nat.le_refl _) (fun _ z => z) (fun ti pc y0 y1 y2 y3 y4 y5 lv hd hp => A_vret K d_Pieces_splitOff ti hr (post := (fun (u : (Nat → Int32) × (Nat → Int32) × (Nat → Int32) × (Nat → Int32) × Int32 × Int32) => post  u.1 u.2.1 u.2.2.1 u.2.2.2.1 u.2.2.2.2.1 u.2.2.2.2.2)) (wl := fun (u : (Nat → Int32) × (Nat → Int32) × (Nat → Int32) × (Nat → Int32) × Int32 × Int32) => w_Pieces_splitOff cI cJ cZ a_t a_firstEnd a_secondEnd a_home a_kindOf a_startAt a_links a_links_near a_links_nearTwice u.1 u.2.1 u.2.2.1 u.2.2.2.1 links_near links_present u.2.2.2.2.1 u.2.2.2.2.2) (y0, y1, y2, y3, y4, y5) hd hp) h)
/-! SkeletonTree$Pieces.splitAt(III)V -/
def t_Pieces_splitAt : List (Nat × Instr × Nat) := [(0, .iconst 0, 1), (1, .istore 4, 2), (3, .iload 4, 2), (5, .bipush 40, 2), (7, .if_icmp .ge 42, 3), (10, .aload_n 0, 1), (11, .getfield 38, 3), (14, .bipush 98, 2), (16, .if_icmp .ge 33, 3), (19, .aload_n 0, 1), (20, .getfield 30, 3), (23, .iload_n 2, 1), (24, .iload_n 3, 1), (25, .invokevirtual 70, 3), (28, .ifCond .eq 21, 3), (31, .aload_n 0, 1), (32, .iload_n 1, 1), (33, .iload_n 2, 1), (34, .iload_n 3, 1), (35, .invokevirtual 74, 3), (38, .aload_n 0, 1), (39, .iload_n 1, 1), (40, .invokevirtual 55, 3), (43, .iinc 4 1, 3), (46, .goto (-43), 3), (49, .return_, 1)]
set_option maxRecDepth 100000 in
theorem d_Pieces_splitAt : sk_T c_Pieces_splitAt t_Pieces_splitAt := by unfold sk_T t_Pieces_splitAt; decide +kernel
def w_Pieces_splitAt (cI cJ cZ : ClassId) (a_t a_firstEnd a_secondEnd a_home a_kindOf a_startAt a_links a_links_near a_links_nearTwice : Nat) (firstEnd : Nat → Int32) (secondEnd : Nat → Int32) (home : Nat → Int32) (startAt : Nat → Int32) (links_near : Nat → Int64) (links_nearTwice : Nat → Int64) (links_present : Int64) (slots : Int32) (count : Int32) : va_W := [(a_t, .inr (3, [.ref a_firstEnd, .ref a_secondEnd, .ref a_home, .ref a_kindOf, .ref a_startAt, .ref a_links, .int slots, .int count])), (a_firstEnd, .inl (cI, 294, .inl firstEnd)), (a_secondEnd, .inl (cI, 294, .inl secondEnd)), (a_home, .inl (cI, 294, .inl home)), (a_startAt, .inl (cI, 98, .inl startAt)), (a_links, .inr (0, [.ref a_links_near, .ref a_links_nearTwice, .long links_present])), (a_links_near, .inl (cJ, 40, .inr (.inl links_near))), (a_links_nearTwice, .inl (cJ, 40, .inr (.inl links_nearTwice)))]
def wp_Pieces_splitAt  (firstEnd : Nat → Int32) (secondEnd : Nat → Int32) (home : Nat → Int32) (startAt : Nat → Int32) (links_near : Nat → Int64) (links_nearTwice : Nat → Int64) (links_present : Int64) (slots : Int32) (count : Int32) (x1 : Int32) (x2 : Int32) (x3 : Int32) (post : (Nat → Int32) → (Nat → Int32) → (Nat → Int32) → (Nat → Int32) → (Nat → Int64) → (Nat → Int64) → Int64 → Int32 → Int32 → Prop) : Prop :=
  ∃ n, sL10 (fun (K_11 : Int32 → (Nat → Int32) → (Nat → Int32) → (Nat → Int32) → (Nat → Int32) → (Nat → Int64) → (Nat → Int64) → Int64 → Int32 → Int32 → Prop) (i4_1 : Int32) (firstEnd_2 : Nat → Int32) (secondEnd_3 : Nat → Int32) (home_4 : Nat → Int32) (startAt_5 : Nat → Int32) (links_near_6 : Nat → Int64) (links_nearTwice_7 : Nat → Int64) (links_present_8 : Int64) (slots_9 : Int32) (count_10 : Int32) => (40 ≤ i4_1 → post firstEnd_2 secondEnd_3 home_4 startAt_5 links_near_6 links_nearTwice_7 links_present_8 slots_9 count_10) ∧ (¬ 40 ≤ i4_1 → (98 ≤ count_10 → post firstEnd_2 secondEnd_3 home_4 startAt_5 links_near_6 links_nearTwice_7 links_present_8 slots_9 count_10) ∧ (¬ 98 ≤ count_10 → wp_Links_comeApartAt links_near_6 links_nearTwice_7 links_present_8 x2 x3 (fun r_14 => (r_14 = 0 → post firstEnd_2 secondEnd_3 home_4 startAt_5 links_near_6 links_nearTwice_7 links_present_8 slots_9 count_10) ∧ (¬ r_14 = 0 → wp_Pieces_splitOff firstEnd_2 secondEnd_3 home_4 startAt_5 links_near_6 links_present_8 slots_9 count_10 x1 x2 x3 (fun firstEnd_15 secondEnd_16 home_17 startAt_18 slots_19 count_20 => wp_Pieces_linkPiece firstEnd_15 secondEnd_16 home_17 links_near_6 links_nearTwice_7 links_present_8 slots_19 x1 (fun links_near_21 links_nearTwice_22 links_present_23 => K_11 (i4_1 + 1) firstEnd_15 secondEnd_16 home_17 startAt_18 links_near_21 links_nearTwice_22 links_present_23 slots_19 count_20))))))) n 0 firstEnd secondEnd home startAt links_near links_nearTwice links_present slots count
set_option maxHeartbeats 4000000 in
set_option maxRecDepth 100000 in
theorem bd_Pieces_splitAt {p : Program} {l : Launch} {e : Env} {R : Room} {s : State} {m : MethodId} {args : Array Value} {below : List Frame} {meth : Method} {c : Code} {D : va_G} {A B : Nat → Prop} {Q : State → Prop} {cI cJ cZ : ClassId} {a_t a_firstEnd a_secondEnd a_home a_kindOf a_startAt a_links a_links_near a_links_nearTwice : Nat} {firstEnd : Nat → Int32} {secondEnd : Nat → Int32} {home : Nat → Int32} {startAt : Nat → Int32} {links_near : Nat → Int64} {links_nearTwice : Nat → Int64} {links_present : Int64} {slots : Int32} {count : Int32} {x1 : Int32} {x2 : Int32} {x3 : Int32} (K : sk_C p s m args meth c c_Pieces_splitAt 5 "SkeletonTree$Pieces" D (tyl cI cJ cZ)) (hR1 : 3 ≤ R.frames) (hR2 : 79 ≤ R.locals) (hBA : ∀ q : Nat, B q → A q) {post : (Nat → Int32) → (Nat → Int32) → (Nat → Int32) → (Nat → Int32) → (Nat → Int64) → (Nat → Int64) → Int64 → Int32 → Int32 → Prop} (hend : ∀ (ti pc : Nat)  (y0 : Nat → Int32) (y1 : Nat → Int32) (y2 : Nat → Int32) (y3 : Nat → Int32) (y4 : Nat → Int64) (y5 : Nat → Int64) (y6 : Int64) (y7 : Int32) (y8 : Int32) (lv : List (Nat × Value)), t_Pieces_splitAt[ti]? = some (pc, .return_, 1) → post  y0 y1 y2 y3 y4 y5 y6 y7 y8 → AW p l e R s m args below meth c D A B 5 Q 0 0 (w_Pieces_splitAt cI cJ cZ a_t a_firstEnd a_secondEnd a_home a_kindOf a_startAt a_links a_links_near a_links_nearTwice y0 y1 y2 y3 y4 y5 y6 y7 y8) lv pc []) (h : wp_Pieces_splitAt firstEnd secondEnd home startAt links_near links_nearTwice links_present slots count x1 x2 x3 post) : AW p l e R s m args below meth c D A B 5 Q 0 0 (w_Pieces_splitAt cI cJ cZ a_t a_firstEnd a_secondEnd a_home a_kindOf a_startAt a_links a_links_near a_links_nearTwice firstEnd secondEnd home startAt links_near links_nearTwice links_present slots count) [(0, .ref a_t), (1, .int x1), (2, .int x2), (3, .int x3)] 0 [] := by
  unfold wp_Pieces_splitAt at h
  refine A_iconst K d_Pieces_splitAt 0 (pc' := 1) (v := 0) rfl rfl (by decide) ?_
  refine A_istore K d_Pieces_splitAt 1 (pc' := 3) (lv' := [(4, .int 0), (0, .ref a_t), (1, .int x1), (2, .int x2), (3, .int x3)]) rfl rfl (by decide) rfl ?_
  refine A_lv [1, 2, 3, 4, 0] rfl ?_
  obtain ⟨n_13, h⟩ := h
  refine sL10_ind (fun (i4_1 : Int32) (firstEnd_2 : Nat → Int32) (secondEnd_3 : Nat → Int32) (home_4 : Nat → Int32) (startAt_5 : Nat → Int32) (links_near_6 : Nat → Int64) (links_nearTwice_7 : Nat → Int64) (links_present_8 : Int64) (slots_9 : Int32) (count_10 : Int32) => AW p l e R s m args below meth c D A B 5 Q 0 0 (w_Pieces_splitAt cI cJ cZ a_t a_firstEnd a_secondEnd a_home a_kindOf a_startAt a_links a_links_near a_links_nearTwice firstEnd_2 secondEnd_3 home_4 startAt_5 links_near_6 links_nearTwice_7 links_present_8 slots_9 count_10) [(0, .ref a_t), (1, .int x1), (2, .int x2), (3, .int x3), (4, .int i4_1)] 3 []) ?_ n_13 _ _ _ _ _ _ _ _ _ _ h
  intro K_11 ih_12 i4_1 firstEnd_2 secondEnd_3 home_4 startAt_5 links_near_6 links_nearTwice_7 links_present_8 slots_9 count_10 h
  refine A_iload K d_Pieces_splitAt 2 4 (pc' := 5) rfl rfl rfl ?_
  refine A_bipush K d_Pieces_splitAt 3 (pc' := 7) (v := 40) rfl rfl (by decide) ?_
  refine A_icmp_ge K d_Pieces_splitAt 4 49 (pc' := 10) rfl rfl rfl (fun q => ?_) (fun q => ?_)
  · replace h := h.1 q
    exact hend 25 _ _ _ _ _ _ _ _ _ _ _ rfl h
  · replace h := h.2 q
    refine A_aload_n K d_Pieces_splitAt 5 0 (pc' := 11) rfl rfl rfl rfl ?_
    refine A_get K d_Pieces_splitAt 6 0 fl_Pieces_38 (pc' := 14) rfl rfl rfl rfl ?_
    refine A_bipush K d_Pieces_splitAt 7 (pc' := 16) (v := 98) rfl rfl (by decide) ?_
    refine A_icmp_ge K d_Pieces_splitAt 8 49 (pc' := 19) rfl rfl rfl (fun q => ?_) (fun q => ?_)
    · replace h := h.1 q
      exact hend 25 _ _ _ _ _ _ _ _ _ _ _ rfl h
    · replace h := h.2 q
      refine A_aload_n K d_Pieces_splitAt 9 0 (pc' := 20) rfl rfl rfl rfl ?_
      refine A_get K d_Pieces_splitAt 10 0 fl_Pieces_30 (pc' := 23) rfl rfl rfl rfl ?_
      refine A_iload_n K d_Pieces_splitAt 11 2 (pc' := 24) rfl rfl rfl rfl ?_
      refine A_iload_n K d_Pieces_splitAt 12 3 (pc' := 25) rfl rfl rfl rfl ?_
      refine R_callV_i K d_Pieces_splitAt 13 [5, 6, 7] (As := [.int x2, .int x3]) (rest := []) (pc' := 28) v_Pieces_70 ⟨rfl, rfl, Nat.le_trans (Nat.le_of_ble_eq_true rfl) hR1, Nat.le_trans (Nat.le_of_ble_eq_true rfl) hR2⟩ (fun sz => met_Links_comeApartAt l D cI cJ cZ a_links a_links_near a_links_nearTwice links_near_6 links_nearTwice_7 links_present_8 x2 x3 _ sz) h rfl rfl rfl rfl rfl rfl (Nat.le_of_ble_eq_true rfl) ⟨Nat.zero_le _, Nat.zero_le _⟩ (q0 := 0) rfl rfl (fun r_14 h => ?_)
      refine A_if_eq K d_Pieces_splitAt 14 49 (pc' := 31) rfl rfl rfl (fun q => ?_) (fun q => ?_)
      · replace h := h.1 q
        exact hend 25 _ _ _ _ _ _ _ _ _ _ _ rfl h
      · replace h := h.2 q
        refine A_aload_n K d_Pieces_splitAt 15 0 (pc' := 32) rfl rfl rfl rfl ?_
        refine A_iload_n K d_Pieces_splitAt 16 1 (pc' := 33) rfl rfl rfl rfl ?_
        refine A_iload_n K d_Pieces_splitAt 17 2 (pc' := 34) rfl rfl rfl rfl ?_
        refine A_iload_n K d_Pieces_splitAt 18 3 (pc' := 35) rfl rfl rfl rfl ?_
        refine C_Vv6 K hBA d_Pieces_splitAt 19 [0, 1, 2, 3, 4, 5, 6] [some 0, some 1, some 2, some 3, some 4, some 5, some 6, none] (As := [.int x1, .int x2, .int x3]) (rest := []) (pc' := 38) (wl := fun firstEnd_15 secondEnd_16 home_17 startAt_18 slots_19 count_20 => w_Pieces_splitOff cI cJ cZ a_t a_firstEnd a_secondEnd a_home a_kindOf a_startAt a_links a_links_near a_links_nearTwice firstEnd_15 secondEnd_16 home_17 startAt_18 links_near_6 links_present_8 slots_19 count_20) (ws' := fun firstEnd_15 secondEnd_16 home_17 startAt_18 slots_19 count_20 => w_Pieces_splitAt cI cJ cZ a_t a_firstEnd a_secondEnd a_home a_kindOf a_startAt a_links a_links_near a_links_nearTwice firstEnd_15 secondEnd_16 home_17 startAt_18 links_near_6 links_nearTwice_7 links_present_8 slots_19 count_20) v_Pieces_74 ⟨rfl, rfl, Nat.le_trans (Nat.le_of_ble_eq_true rfl) hR1, Nat.le_trans (Nat.le_of_ble_eq_true rfl) hR2⟩ (fun sz => met_Pieces_splitOff l D cI cJ cZ a_t a_firstEnd a_secondEnd a_home a_kindOf a_startAt a_links a_links_near a_links_nearTwice firstEnd_2 secondEnd_3 home_4 startAt_5 links_near_6 links_present_8 slots_9 count_10 x1 x2 x3 _ sz) h rfl rfl rfl rfl rfl (fun _ _ _ _ _ _ => rfl) rfl (by decide) (Nat.le_of_ble_eq_true rfl) ⟨Nat.zero_le _, Nat.zero_le _⟩ (q0 := 0) rfl rfl (fun _ _ _ _ _ _ => rfl) (fun firstEnd_15 secondEnd_16 home_17 startAt_18 slots_19 count_20 h => ?_)
        refine A_aload_n K d_Pieces_splitAt 20 0 (pc' := 39) rfl rfl rfl rfl ?_
        refine A_iload_n K d_Pieces_splitAt 21 1 (pc' := 40) rfl rfl rfl rfl ?_
        refine C_Vv3 K hBA d_Pieces_splitAt 22 [0, 1, 2, 3, 5, 6, 7] [some 0, some 1, some 2, some 3, none, some 4, some 5, some 6] (As := [.int x1]) (rest := []) (pc' := 43) (wl := fun links_near_21 links_nearTwice_22 links_present_23 => w_Pieces_linkPiece cI cJ cZ a_t a_firstEnd a_secondEnd a_home a_kindOf a_startAt a_links a_links_near a_links_nearTwice firstEnd_15 secondEnd_16 home_17 links_near_21 links_nearTwice_22 links_present_23 slots_19 count_20) (ws' := fun links_near_21 links_nearTwice_22 links_present_23 => w_Pieces_splitAt cI cJ cZ a_t a_firstEnd a_secondEnd a_home a_kindOf a_startAt a_links a_links_near a_links_nearTwice firstEnd_15 secondEnd_16 home_17 startAt_18 links_near_21 links_nearTwice_22 links_present_23 slots_19 count_20) v_Pieces_55 ⟨rfl, rfl, Nat.le_trans (Nat.le_of_ble_eq_true rfl) hR1, Nat.le_trans (Nat.le_of_ble_eq_true rfl) hR2⟩ (fun sz => met_Pieces_linkPiece l D cI cJ cZ a_t a_firstEnd a_secondEnd a_home a_kindOf a_startAt a_links a_links_near a_links_nearTwice firstEnd_15 secondEnd_16 home_17 links_near_6 links_nearTwice_7 links_present_8 slots_19 count_20 x1 _ sz) h rfl rfl rfl rfl rfl (fun _ _ _ => rfl) rfl (by decide) (Nat.le_of_ble_eq_true rfl) ⟨Nat.zero_le _, Nat.zero_le _⟩ (q0 := 0) rfl rfl (fun _ _ _ => rfl) (fun links_near_21 links_nearTwice_22 links_present_23 h => ?_)
        refine A_iinc K d_Pieces_splitAt 23 4 (pc' := 46) (v := i4_1 + 1) (lv' := [(4, .int (i4_1 + 1)), (0, .ref a_t), (1, .int x1), (2, .int x2), (3, .int x3)]) rfl rfl rfl rfl (by decide) rfl ?_
        refine A_goto K d_Pieces_splitAt 24 (pc' := 3) rfl rfl ?_
        refine A_lv [1, 2, 3, 4, 0] rfl ?_
        exact ih_12 _ _ _ _ _ _ _ _ _ _ h
theorem met_Pieces_splitAt (l : Launch) (D : va_G) (cI cJ cZ : ClassId) (a_t a_firstEnd a_secondEnd a_home a_kindOf a_startAt a_links a_links_near a_links_nearTwice : Nat) (firstEnd : Nat → Int32) (secondEnd : Nat → Int32) (home : Nat → Int32) (startAt : Nat → Int32) (links_near : Nat → Int64) (links_nearTwice : Nat → Int64) (links_present : Int64) (slots : Int32) (count : Int32) (x1 : Int32) (x2 : Int32) (x3 : Int32) (post : (Nat → Int32) → (Nat → Int32) → (Nat → Int32) → (Nat → Int32) → (Nat → Int64) → (Nat → Int64) → Int64 → Int32 → Int32 → Prop) (sz : Nat) : Met l y_Pieces_splitAt (Cond.code y_Pieces_splitAt c_Pieces_splitAt 5 (Option.none : Option Jvm.ClassFile.FieldType) :: GW) { frames := 3, cells := 0, slots := 0, locals := 79 } (va_Pc [.ref a_t, .int x1, .int x2, .int x3] (fun U => sk_P D (tyl cI cJ cZ) (w_Pieces_splitAt cI cJ cZ a_t a_firstEnd a_secondEnd a_home a_kindOf a_startAt a_links a_links_near a_links_nearTwice firstEnd secondEnd home startAt links_near links_nearTwice links_present slots count) sz U ∧ wp_Pieces_splitAt firstEnd secondEnd home startAt links_near links_nearTwice links_present slots count x1 x2 x3 post)) (va_Qv (fun (u : (Nat → Int32) × (Nat → Int32) × (Nat → Int32) × (Nat → Int32) × (Nat → Int64) × (Nat → Int64) × Int64 × Int32 × Int32) => post  u.1 u.2.1 u.2.2.1 u.2.2.2.1 u.2.2.2.2.1 u.2.2.2.2.2.1 u.2.2.2.2.2.2.1 u.2.2.2.2.2.2.2.1 u.2.2.2.2.2.2.2.2) (fun u t => sk_B D (tyl cI cJ cZ) (w_Pieces_splitAt cI cJ cZ a_t a_firstEnd a_secondEnd a_home a_kindOf a_startAt a_links a_links_near a_links_nearTwice u.1 u.2.1 u.2.2.1 u.2.2.2.1 u.2.2.2.2.1 u.2.2.2.2.2.1 u.2.2.2.2.2.2.1 u.2.2.2.2.2.2.2.1 u.2.2.2.2.2.2.2.2) (va_A (w_Pieces_splitAt cI cJ cZ a_t a_firstEnd a_secondEnd a_home a_kindOf a_startAt a_links a_links_near a_links_nearTwice firstEnd secondEnd home startAt links_near links_nearTwice links_present slots count) sz) t) (va_A (w_Pieces_splitAt cI cJ cZ a_t a_firstEnd a_secondEnd a_home a_kindOf a_startAt a_links a_links_near a_links_nearTwice firstEnd secondEnd home startAt links_near links_nearTwice links_present slots count) sz)) 0 0 (va_A (w_Pieces_splitAt cI cJ cZ a_t a_firstEnd a_secondEnd a_home a_kindOf a_startAt a_links a_links_near a_links_nearTwice firstEnd secondEnd home startAt links_near links_nearTwice links_present slots count) sz) :=
  sk_intro (by decide) (Nat.le_of_ble_eq_true rfl) (fun p e s m below meth c K hr _ h => bd_Pieces_splitAt K (Nat.le_refl _) (Nat.le_refl _) (fun _ z => z) (fun ti pc y0 y1 y2 y3 y4 y5 y6 y7 y8 lv hd hp => A_vret K d_Pieces_splitAt ti hr (post := (fun (u : (Nat → Int32) × (Nat → Int32) × (Nat → Int32) × (Nat → Int32) × (Nat → Int64) × (Nat → Int64) × Int64 × Int32 × Int32) => post  u.1 u.2.1 u.2.2.1 u.2.2.2.1 u.2.2.2.2.1 u.2.2.2.2.2.1 u.2.2.2.2.2.2.1 u.2.2.2.2.2.2.2.1 u.2.2.2.2.2.2.2.2)) (wl := fun (u : (Nat → Int32) × (Nat → Int32) × (Nat → Int32) × (Nat → Int32) × (Nat → Int64) × (Nat → Int64) × Int64 × Int32 × Int32) => w_Pieces_splitAt cI cJ cZ a_t a_firstEnd a_secondEnd a_home a_kindOf a_startAt a_links a_links_near a_links_nearTwice u.1 u.2.1 u.2.2.1 u.2.2.2.1 u.2.2.2.2.1 u.2.2.2.2.2.1 u.2.2.2.2.2.2.1 u.2.2.2.2.2.2.2.1 u.2.2.2.2.2.2.2.2) (y0, y1, y2, y3, y4, y5, y6, y7, y8) hd hp) h)
/-! SkeletonTree$Pieces.comeApartFrom(I)V -/
def t_Pieces_comeApartFrom : List (Nat × Instr × Nat) := [(0, .aload_n 0, 1), (1, .iload_n 1, 1), (2, .invokevirtual 55, 3), (5, .aload_n 0, 1), (6, .getfield 24, 3), (9, .iload_n 1, 1), (10, .iaload, 1), (11, .istore_n 2, 1), (12, .iload_n 2, 1), (13, .bipush 40, 2), (15, .if_icmp .ge 60, 3), (18, .iload_n 2, 1), (19, .iconst 1, 1), (20, .iadd, 1), (21, .istore_n 3, 1), (22, .iload_n 3, 1), (23, .bipush 40, 2), (25, .if_icmp .ge 44, 3), (28, .aload_n 0, 1), (29, .getfield 30, 3), (32, .getfield 58, 3), (35, .iload_n 2, 1), (36, .invokestatic 62, 3), (39, .ifCond .eq 30, 3), (42, .aload_n 0, 1), (43, .getfield 30, 3), (46, .getfield 58, 3), (49, .iload_n 3, 1), (50, .invokestatic 62, 3), (53, .ifCond .eq 10, 3), (56, .aload_n 0, 1), (57, .iload_n 1, 1), (58, .iload_n 2, 1), (59, .iload_n 3, 1), (60, .invokevirtual 66, 3), (63, .iinc 3 1, 3), (66, .goto (-44), 3), (69, .iinc 2 1, 3), (72, .goto (-60), 3), (75, .return_, 1)]
set_option maxRecDepth 100000 in
theorem d_Pieces_comeApartFrom : sk_T c_Pieces_comeApartFrom t_Pieces_comeApartFrom := by unfold sk_T t_Pieces_comeApartFrom; decide +kernel
def w_Pieces_comeApartFrom (cI cJ cZ : ClassId) (a_t a_firstEnd a_secondEnd a_home a_kindOf a_startAt a_links a_links_near a_links_nearTwice : Nat) (firstEnd : Nat → Int32) (secondEnd : Nat → Int32) (home : Nat → Int32) (startAt : Nat → Int32) (links_near : Nat → Int64) (links_nearTwice : Nat → Int64) (links_present : Int64) (slots : Int32) (count : Int32) : va_W := [(a_t, .inr (3, [.ref a_firstEnd, .ref a_secondEnd, .ref a_home, .ref a_kindOf, .ref a_startAt, .ref a_links, .int slots, .int count])), (a_firstEnd, .inl (cI, 294, .inl firstEnd)), (a_secondEnd, .inl (cI, 294, .inl secondEnd)), (a_home, .inl (cI, 294, .inl home)), (a_startAt, .inl (cI, 98, .inl startAt)), (a_links, .inr (0, [.ref a_links_near, .ref a_links_nearTwice, .long links_present])), (a_links_near, .inl (cJ, 40, .inr (.inl links_near))), (a_links_nearTwice, .inl (cJ, 40, .inr (.inl links_nearTwice)))]
def wp_Pieces_comeApartFrom  (firstEnd : Nat → Int32) (secondEnd : Nat → Int32) (home : Nat → Int32) (startAt : Nat → Int32) (links_near : Nat → Int64) (links_nearTwice : Nat → Int64) (links_present : Int64) (slots : Int32) (count : Int32) (x1 : Int32) (post : (Nat → Int32) → (Nat → Int32) → (Nat → Int32) → (Nat → Int32) → (Nat → Int64) → (Nat → Int64) → Int64 → Int32 → Int32 → Prop) : Prop :=
  wp_Pieces_linkPiece firstEnd secondEnd home links_near links_nearTwice links_present slots x1 (fun links_near_1 links_nearTwice_2 links_present_3 => vp_in x1 98 ∧ ∃ n, sL10 (fun (K_14 : Int32 → (Nat → Int32) → (Nat → Int32) → (Nat → Int32) → (Nat → Int32) → (Nat → Int64) → (Nat → Int64) → Int64 → Int32 → Int32 → Prop) (i2_4 : Int32) (firstEnd_5 : Nat → Int32) (secondEnd_6 : Nat → Int32) (home_7 : Nat → Int32) (startAt_8 : Nat → Int32) (links_near_9 : Nat → Int64) (links_nearTwice_10 : Nat → Int64) (links_present_11 : Int64) (slots_12 : Int32) (count_13 : Int32) => (40 ≤ i2_4 → post firstEnd_5 secondEnd_6 home_7 startAt_8 links_near_9 links_nearTwice_10 links_present_11 slots_12 count_13) ∧ (¬ 40 ≤ i2_4 → ∃ n, sL10 (fun (K_27 : Int32 → (Nat → Int32) → (Nat → Int32) → (Nat → Int32) → (Nat → Int32) → (Nat → Int64) → (Nat → Int64) → Int64 → Int32 → Int32 → Prop) (i3_17 : Int32) (firstEnd_18 : Nat → Int32) (secondEnd_19 : Nat → Int32) (home_20 : Nat → Int32) (startAt_21 : Nat → Int32) (links_near_22 : Nat → Int64) (links_nearTwice_23 : Nat → Int64) (links_present_24 : Int64) (slots_25 : Int32) (count_26 : Int32) => (40 ≤ i3_17 → K_14 (i2_4 + 1) firstEnd_18 secondEnd_19 home_20 startAt_21 links_near_22 links_nearTwice_23 links_present_24 slots_25 count_26) ∧ (¬ 40 ≤ i3_17 → wp_Tree_holds links_present_24 i2_4 (fun r_30 => (r_30 = 0 → K_14 (i2_4 + 1) firstEnd_18 secondEnd_19 home_20 startAt_21 links_near_22 links_nearTwice_23 links_present_24 slots_25 count_26) ∧ (¬ r_30 = 0 → wp_Tree_holds links_present_24 i3_17 (fun r_31 => (r_31 = 0 → K_27 (i3_17 + 1) firstEnd_18 secondEnd_19 home_20 startAt_21 links_near_22 links_nearTwice_23 links_present_24 slots_25 count_26) ∧ (¬ r_31 = 0 → wp_Pieces_splitAt firstEnd_18 secondEnd_19 home_20 startAt_21 links_near_22 links_nearTwice_23 links_present_24 slots_25 count_26 x1 i2_4 i3_17 (fun firstEnd_32 secondEnd_33 home_34 startAt_35 links_near_36 links_nearTwice_37 links_present_38 slots_39 count_40 => K_27 (i3_17 + 1) firstEnd_32 secondEnd_33 home_34 startAt_35 links_near_36 links_nearTwice_37 links_present_38 slots_39 count_40))))))) n (i2_4 + 1) firstEnd_5 secondEnd_6 home_7 startAt_8 links_near_9 links_nearTwice_10 links_present_11 slots_12 count_13)) n (startAt (ix x1)) firstEnd secondEnd home startAt links_near_1 links_nearTwice_2 links_present_3 slots count)
set_option maxHeartbeats 4000000 in
set_option maxRecDepth 100000 in
theorem bd_Pieces_comeApartFrom {p : Program} {l : Launch} {e : Env} {R : Room} {s : State} {m : MethodId} {args : Array Value} {below : List Frame} {meth : Method} {c : Code} {D : va_G} {A B : Nat → Prop} {Q : State → Prop} {cI cJ cZ : ClassId} {a_t a_firstEnd a_secondEnd a_home a_kindOf a_startAt a_links a_links_near a_links_nearTwice : Nat} {firstEnd : Nat → Int32} {secondEnd : Nat → Int32} {home : Nat → Int32} {startAt : Nat → Int32} {links_near : Nat → Int64} {links_nearTwice : Nat → Int64} {links_present : Int64} {slots : Int32} {count : Int32} {x1 : Int32} (K : sk_C p s m args meth c c_Pieces_comeApartFrom 4 "SkeletonTree$Pieces" D (tyl cI cJ cZ)) (hR1 : 4 ≤ R.frames) (hR2 : 103 ≤ R.locals) (hBA : ∀ q : Nat, B q → A q) {post : (Nat → Int32) → (Nat → Int32) → (Nat → Int32) → (Nat → Int32) → (Nat → Int64) → (Nat → Int64) → Int64 → Int32 → Int32 → Prop} (hend : ∀ (ti pc : Nat)  (y0 : Nat → Int32) (y1 : Nat → Int32) (y2 : Nat → Int32) (y3 : Nat → Int32) (y4 : Nat → Int64) (y5 : Nat → Int64) (y6 : Int64) (y7 : Int32) (y8 : Int32) (lv : List (Nat × Value)), t_Pieces_comeApartFrom[ti]? = some (pc, .return_, 1) → post  y0 y1 y2 y3 y4 y5 y6 y7 y8 → AW p l e R s m args below meth c D A B 4 Q 0 0 (w_Pieces_comeApartFrom cI cJ cZ a_t a_firstEnd a_secondEnd a_home a_kindOf a_startAt a_links a_links_near a_links_nearTwice y0 y1 y2 y3 y4 y5 y6 y7 y8) lv pc []) (h : wp_Pieces_comeApartFrom firstEnd secondEnd home startAt links_near links_nearTwice links_present slots count x1 post) : AW p l e R s m args below meth c D A B 4 Q 0 0 (w_Pieces_comeApartFrom cI cJ cZ a_t a_firstEnd a_secondEnd a_home a_kindOf a_startAt a_links a_links_near a_links_nearTwice firstEnd secondEnd home startAt links_near links_nearTwice links_present slots count) [(0, .ref a_t), (1, .int x1)] 0 [] := by
  unfold wp_Pieces_comeApartFrom at h
  refine A_aload_n K d_Pieces_comeApartFrom 0 0 (pc' := 1) rfl rfl rfl rfl ?_
  refine A_iload_n K d_Pieces_comeApartFrom 1 1 (pc' := 2) rfl rfl rfl rfl ?_
  refine C_Vv3 K hBA d_Pieces_comeApartFrom 2 [0, 1, 2, 3, 5, 6, 7] [some 0, some 1, some 2, some 3, none, some 4, some 5, some 6] (As := [.int x1]) (rest := []) (pc' := 5) (wl := fun links_near_1 links_nearTwice_2 links_present_3 => w_Pieces_linkPiece cI cJ cZ a_t a_firstEnd a_secondEnd a_home a_kindOf a_startAt a_links a_links_near a_links_nearTwice firstEnd secondEnd home links_near_1 links_nearTwice_2 links_present_3 slots count) (ws' := fun links_near_1 links_nearTwice_2 links_present_3 => w_Pieces_comeApartFrom cI cJ cZ a_t a_firstEnd a_secondEnd a_home a_kindOf a_startAt a_links a_links_near a_links_nearTwice firstEnd secondEnd home startAt links_near_1 links_nearTwice_2 links_present_3 slots count) v_Pieces_55 ⟨rfl, rfl, Nat.le_trans (Nat.le_of_ble_eq_true rfl) hR1, Nat.le_trans (Nat.le_of_ble_eq_true rfl) hR2⟩ (fun sz => met_Pieces_linkPiece l D cI cJ cZ a_t a_firstEnd a_secondEnd a_home a_kindOf a_startAt a_links a_links_near a_links_nearTwice firstEnd secondEnd home links_near links_nearTwice links_present slots count x1 _ sz) h rfl rfl rfl rfl rfl (fun _ _ _ => rfl) rfl (by decide) (Nat.le_of_ble_eq_true rfl) ⟨Nat.zero_le _, Nat.zero_le _⟩ (q0 := 0) rfl rfl (fun _ _ _ => rfl) (fun links_near_1 links_nearTwice_2 links_present_3 h => ?_)
  refine A_aload_n K d_Pieces_comeApartFrom 3 0 (pc' := 6) rfl rfl rfl rfl ?_
  refine A_get K d_Pieces_comeApartFrom 4 0 fl_Pieces_24 (pc' := 9) rfl rfl rfl rfl ?_
  refine A_iload_n K d_Pieces_comeApartFrom 5 1 (pc' := 10) rfl rfl rfl rfl ?_
  refine A_iald K d_Pieces_comeApartFrom 6 4 0 (pc' := 11) rfl rfl rfl rfl h.1 ?_
  replace h := h.2
  refine A_istore_n K d_Pieces_comeApartFrom 7 (pc' := 12) (lv' := [(2, .int (startAt (ix x1))), (0, .ref a_t), (1, .int x1)]) rfl rfl rfl (by decide) rfl ?_
  refine A_lv [1, 2, 0] rfl ?_
  obtain ⟨n_16, h⟩ := h
  refine sL10_ind (fun (i2_4 : Int32) (firstEnd_5 : Nat → Int32) (secondEnd_6 : Nat → Int32) (home_7 : Nat → Int32) (startAt_8 : Nat → Int32) (links_near_9 : Nat → Int64) (links_nearTwice_10 : Nat → Int64) (links_present_11 : Int64) (slots_12 : Int32) (count_13 : Int32) => AW p l e R s m args below meth c D A B 4 Q 0 0 (w_Pieces_comeApartFrom cI cJ cZ a_t a_firstEnd a_secondEnd a_home a_kindOf a_startAt a_links a_links_near a_links_nearTwice firstEnd_5 secondEnd_6 home_7 startAt_8 links_near_9 links_nearTwice_10 links_present_11 slots_12 count_13) [(0, .ref a_t), (1, .int x1), (2, .int i2_4)] 12 []) ?_ n_16 _ _ _ _ _ _ _ _ _ _ h
  intro K_14 ih_15 i2_4 firstEnd_5 secondEnd_6 home_7 startAt_8 links_near_9 links_nearTwice_10 links_present_11 slots_12 count_13 h
  refine A_iload_n K d_Pieces_comeApartFrom 8 2 (pc' := 13) rfl rfl rfl rfl ?_
  refine A_bipush K d_Pieces_comeApartFrom 9 (pc' := 15) (v := 40) rfl rfl (by decide) ?_
  refine A_icmp_ge K d_Pieces_comeApartFrom 10 75 (pc' := 18) rfl rfl rfl (fun q => ?_) (fun q => ?_)
  · replace h := h.1 q
    exact hend 39 _ _ _ _ _ _ _ _ _ _ _ rfl h
  · replace h := h.2 q
    refine A_iload_n K d_Pieces_comeApartFrom 11 2 (pc' := 19) rfl rfl rfl rfl ?_
    refine A_iconst K d_Pieces_comeApartFrom 12 (pc' := 20) (v := 1) rfl rfl (by decide) ?_
    refine A_iadd K d_Pieces_comeApartFrom 13 (pc' := 21) rfl rfl ?_
    refine A_istore_n K d_Pieces_comeApartFrom 14 (pc' := 22) (lv' := [(3, .int (i2_4 + 1)), (0, .ref a_t), (1, .int x1), (2, .int i2_4)]) rfl rfl rfl (by decide) rfl ?_
    refine A_lv [1, 2, 3, 0] rfl ?_
    obtain ⟨n_29, h⟩ := h
    refine sL10_ind (fun (i3_17 : Int32) (firstEnd_18 : Nat → Int32) (secondEnd_19 : Nat → Int32) (home_20 : Nat → Int32) (startAt_21 : Nat → Int32) (links_near_22 : Nat → Int64) (links_nearTwice_23 : Nat → Int64) (links_present_24 : Int64) (slots_25 : Int32) (count_26 : Int32) => AW p l e R s m args below meth c D A B 4 Q 0 0 (w_Pieces_comeApartFrom cI cJ cZ a_t a_firstEnd a_secondEnd a_home a_kindOf a_startAt a_links a_links_near a_links_nearTwice firstEnd_18 secondEnd_19 home_20 startAt_21 links_near_22 links_nearTwice_23 links_present_24 slots_25 count_26) [(0, .ref a_t), (1, .int x1), (2, .int i2_4), (3, .int i3_17)] 22 []) ?_ n_29 _ _ _ _ _ _ _ _ _ _ h
    intro K_27 ih_28 i3_17 firstEnd_18 secondEnd_19 home_20 startAt_21 links_near_22 links_nearTwice_23 links_present_24 slots_25 count_26 h
    refine A_iload_n K d_Pieces_comeApartFrom 15 3 (pc' := 23) rfl rfl rfl rfl ?_
    refine A_bipush K d_Pieces_comeApartFrom 16 (pc' := 25) (v := 40) rfl rfl (by decide) ?_
    refine A_icmp_ge K d_Pieces_comeApartFrom 17 69 (pc' := 28) rfl rfl rfl (fun q => ?_) (fun q => ?_)
    · replace h := h.1 q
      refine A_iinc K d_Pieces_comeApartFrom 37 2 (pc' := 72) (v := i2_4 + 1) (lv' := [(2, .int (i2_4 + 1)), (0, .ref a_t), (1, .int x1), (3, .int i3_17)]) rfl rfl rfl rfl (by decide) rfl ?_
      refine A_goto K d_Pieces_comeApartFrom 38 (pc' := 12) rfl rfl ?_
      refine A_lv [1, 2, 0] rfl ?_
      exact ih_15 _ _ _ _ _ _ _ _ _ _ h
    · replace h := h.2 q
      refine A_aload_n K d_Pieces_comeApartFrom 18 0 (pc' := 29) rfl rfl rfl rfl ?_
      refine A_get K d_Pieces_comeApartFrom 19 0 fl_Pieces_30 (pc' := 32) rfl rfl rfl rfl ?_
      refine A_get K d_Pieces_comeApartFrom 20 5 fl_Pieces_58 (pc' := 35) rfl rfl rfl rfl ?_
      refine A_iload_n K d_Pieces_comeApartFrom 21 2 (pc' := 36) rfl rfl rfl rfl ?_
      refine R_callSN_i K d_Pieces_comeApartFrom 22 [] (As := [.long links_present_24, .int i2_4]) (rest := []) (pc' := 39) v_Pieces_62 ⟨rfl, rfl, Nat.le_trans (Nat.le_of_ble_eq_true rfl) hR1, Nat.le_trans (Nat.le_of_ble_eq_true rfl) hR2⟩ (fun sz => met_Tree_holds l D cI cJ cZ links_present_24 i2_4 _ sz) h rfl rfl rfl rfl rfl rfl (Nat.le_of_ble_eq_true rfl) ⟨Nat.zero_le _, Nat.zero_le _⟩ (fun r_30 h => ?_)
      refine A_if_eq K d_Pieces_comeApartFrom 23 69 (pc' := 42) rfl rfl rfl (fun q => ?_) (fun q => ?_)
      · replace h := h.1 q
        refine A_iinc K d_Pieces_comeApartFrom 37 2 (pc' := 72) (v := i2_4 + 1) (lv' := [(2, .int (i2_4 + 1)), (0, .ref a_t), (1, .int x1), (3, .int i3_17)]) rfl rfl rfl rfl (by decide) rfl ?_
        refine A_goto K d_Pieces_comeApartFrom 38 (pc' := 12) rfl rfl ?_
        refine A_lv [1, 2, 0] rfl ?_
        exact ih_15 _ _ _ _ _ _ _ _ _ _ h
      · replace h := h.2 q
        refine A_aload_n K d_Pieces_comeApartFrom 24 0 (pc' := 43) rfl rfl rfl rfl ?_
        refine A_get K d_Pieces_comeApartFrom 25 0 fl_Pieces_30 (pc' := 46) rfl rfl rfl rfl ?_
        refine A_get K d_Pieces_comeApartFrom 26 5 fl_Pieces_58 (pc' := 49) rfl rfl rfl rfl ?_
        refine A_iload_n K d_Pieces_comeApartFrom 27 3 (pc' := 50) rfl rfl rfl rfl ?_
        refine R_callSN_i K d_Pieces_comeApartFrom 28 [] (As := [.long links_present_24, .int i3_17]) (rest := []) (pc' := 53) v_Pieces_62 ⟨rfl, rfl, Nat.le_trans (Nat.le_of_ble_eq_true rfl) hR1, Nat.le_trans (Nat.le_of_ble_eq_true rfl) hR2⟩ (fun sz => met_Tree_holds l D cI cJ cZ links_present_24 i3_17 _ sz) h rfl rfl rfl rfl rfl rfl (Nat.le_of_ble_eq_true rfl) ⟨Nat.zero_le _, Nat.zero_le _⟩ (fun r_31 h => ?_)
        refine A_if_eq K d_Pieces_comeApartFrom 29 63 (pc' := 56) rfl rfl rfl (fun q => ?_) (fun q => ?_)
        · replace h := h.1 q
          refine A_iinc K d_Pieces_comeApartFrom 35 3 (pc' := 66) (v := i3_17 + 1) (lv' := [(3, .int (i3_17 + 1)), (0, .ref a_t), (1, .int x1), (2, .int i2_4)]) rfl rfl rfl rfl (by decide) rfl ?_
          refine A_goto K d_Pieces_comeApartFrom 36 (pc' := 22) rfl rfl ?_
          refine A_lv [1, 2, 3, 0] rfl ?_
          exact ih_28 _ _ _ _ _ _ _ _ _ _ h
        · replace h := h.2 q
          refine A_aload_n K d_Pieces_comeApartFrom 30 0 (pc' := 57) rfl rfl rfl rfl ?_
          refine A_iload_n K d_Pieces_comeApartFrom 31 1 (pc' := 58) rfl rfl rfl rfl ?_
          refine A_iload_n K d_Pieces_comeApartFrom 32 2 (pc' := 59) rfl rfl rfl rfl ?_
          refine A_iload_n K d_Pieces_comeApartFrom 33 3 (pc' := 60) rfl rfl rfl rfl ?_
          refine C_Vv9 K hBA d_Pieces_comeApartFrom 34 [0, 1, 2, 3, 4, 5, 6, 7] [some 0, some 1, some 2, some 3, some 4, some 5, some 6, some 7] (As := [.int x1, .int i2_4, .int i3_17]) (rest := []) (pc' := 63) (wl := fun firstEnd_32 secondEnd_33 home_34 startAt_35 links_near_36 links_nearTwice_37 links_present_38 slots_39 count_40 => w_Pieces_splitAt cI cJ cZ a_t a_firstEnd a_secondEnd a_home a_kindOf a_startAt a_links a_links_near a_links_nearTwice firstEnd_32 secondEnd_33 home_34 startAt_35 links_near_36 links_nearTwice_37 links_present_38 slots_39 count_40) (ws' := fun firstEnd_32 secondEnd_33 home_34 startAt_35 links_near_36 links_nearTwice_37 links_present_38 slots_39 count_40 => w_Pieces_comeApartFrom cI cJ cZ a_t a_firstEnd a_secondEnd a_home a_kindOf a_startAt a_links a_links_near a_links_nearTwice firstEnd_32 secondEnd_33 home_34 startAt_35 links_near_36 links_nearTwice_37 links_present_38 slots_39 count_40) v_Pieces_66 ⟨rfl, rfl, Nat.le_trans (Nat.le_of_ble_eq_true rfl) hR1, Nat.le_trans (Nat.le_of_ble_eq_true rfl) hR2⟩ (fun sz => met_Pieces_splitAt l D cI cJ cZ a_t a_firstEnd a_secondEnd a_home a_kindOf a_startAt a_links a_links_near a_links_nearTwice firstEnd_18 secondEnd_19 home_20 startAt_21 links_near_22 links_nearTwice_23 links_present_24 slots_25 count_26 x1 i2_4 i3_17 _ sz) h rfl rfl rfl rfl rfl (fun _ _ _ _ _ _ _ _ _ => rfl) rfl (by decide) (Nat.le_of_ble_eq_true rfl) ⟨Nat.zero_le _, Nat.zero_le _⟩ (q0 := 0) rfl rfl (fun _ _ _ _ _ _ _ _ _ => rfl) (fun firstEnd_32 secondEnd_33 home_34 startAt_35 links_near_36 links_nearTwice_37 links_present_38 slots_39 count_40 h => ?_)
          refine A_iinc K d_Pieces_comeApartFrom 35 3 (pc' := 66) (v := i3_17 + 1) (lv' := [(3, .int (i3_17 + 1)), (0, .ref a_t), (1, .int x1), (2, .int i2_4)]) rfl rfl rfl rfl (by decide) rfl ?_
          refine A_goto K d_Pieces_comeApartFrom 36 (pc' := 22) rfl rfl ?_
          refine A_lv [1, 2, 3, 0] rfl ?_
          exact ih_28 _ _ _ _ _ _ _ _ _ _ h
theorem met_Pieces_comeApartFrom (l : Launch) (D : va_G) (cI cJ cZ : ClassId) (a_t a_firstEnd a_secondEnd a_home a_kindOf a_startAt a_links a_links_near a_links_nearTwice : Nat) (firstEnd : Nat → Int32) (secondEnd : Nat → Int32) (home : Nat → Int32) (startAt : Nat → Int32) (links_near : Nat → Int64) (links_nearTwice : Nat → Int64) (links_present : Int64) (slots : Int32) (count : Int32) (x1 : Int32) (post : (Nat → Int32) → (Nat → Int32) → (Nat → Int32) → (Nat → Int32) → (Nat → Int64) → (Nat → Int64) → Int64 → Int32 → Int32 → Prop) (sz : Nat) : Met l y_Pieces_comeApartFrom (Cond.code y_Pieces_comeApartFrom c_Pieces_comeApartFrom 4 (Option.none : Option Jvm.ClassFile.FieldType) :: GW) { frames := 4, cells := 0, slots := 0, locals := 103 } (va_Pc [.ref a_t, .int x1] (fun U => sk_P D (tyl cI cJ cZ) (w_Pieces_comeApartFrom cI cJ cZ a_t a_firstEnd a_secondEnd a_home a_kindOf a_startAt a_links a_links_near a_links_nearTwice firstEnd secondEnd home startAt links_near links_nearTwice links_present slots count) sz U ∧ wp_Pieces_comeApartFrom firstEnd secondEnd home startAt links_near links_nearTwice links_present slots count x1 post)) (va_Qv (fun (u : (Nat → Int32) × (Nat → Int32) × (Nat → Int32) × (Nat → Int32) × (Nat → Int64) × (Nat → Int64) × Int64 × Int32 × Int32) => post  u.1 u.2.1 u.2.2.1 u.2.2.2.1 u.2.2.2.2.1 u.2.2.2.2.2.1 u.2.2.2.2.2.2.1 u.2.2.2.2.2.2.2.1 u.2.2.2.2.2.2.2.2) (fun u t => sk_B D (tyl cI cJ cZ) (w_Pieces_comeApartFrom cI cJ cZ a_t a_firstEnd a_secondEnd a_home a_kindOf a_startAt a_links a_links_near a_links_nearTwice u.1 u.2.1 u.2.2.1 u.2.2.2.1 u.2.2.2.2.1 u.2.2.2.2.2.1 u.2.2.2.2.2.2.1 u.2.2.2.2.2.2.2.1 u.2.2.2.2.2.2.2.2) (va_A (w_Pieces_comeApartFrom cI cJ cZ a_t a_firstEnd a_secondEnd a_home a_kindOf a_startAt a_links a_links_near a_links_nearTwice firstEnd secondEnd home startAt links_near links_nearTwice links_present slots count) sz) t) (va_A (w_Pieces_comeApartFrom cI cJ cZ a_t a_firstEnd a_secondEnd a_home a_kindOf a_startAt a_links a_links_near a_links_nearTwice firstEnd secondEnd home startAt links_near links_nearTwice links_present slots count) sz)) 0 0 (va_A (w_Pieces_comeApartFrom cI cJ cZ a_t a_firstEnd a_secondEnd a_home a_kindOf a_startAt a_links a_links_near a_links_nearTwice firstEnd secondEnd home startAt links_near links_nearTwice links_present slots count) sz) :=
  sk_intro (by decide) (Nat.le_of_ble_eq_true rfl) (fun p e s m below meth c K hr _ h => bd_Pieces_comeApartFrom K (Nat.le_refl _) (Nat.le_refl _) (fun _ z => z) (fun ti pc y0 y1 y2 y3 y4 y5 y6 y7 y8 lv hd hp => A_vret K d_Pieces_comeApartFrom ti hr (post := (fun (u : (Nat → Int32) × (Nat → Int32) × (Nat → Int32) × (Nat → Int32) × (Nat → Int64) × (Nat → Int64) × Int64 × Int32 × Int32) => post  u.1 u.2.1 u.2.2.1 u.2.2.2.1 u.2.2.2.2.1 u.2.2.2.2.2.1 u.2.2.2.2.2.2.1 u.2.2.2.2.2.2.2.1 u.2.2.2.2.2.2.2.2)) (wl := fun (u : (Nat → Int32) × (Nat → Int32) × (Nat → Int32) × (Nat → Int32) × (Nat → Int64) × (Nat → Int64) × Int64 × Int32 × Int32) => w_Pieces_comeApartFrom cI cJ cZ a_t a_firstEnd a_secondEnd a_home a_kindOf a_startAt a_links a_links_near a_links_nearTwice u.1 u.2.1 u.2.2.1 u.2.2.2.1 u.2.2.2.2.1 u.2.2.2.2.2.1 u.2.2.2.2.2.2.1 u.2.2.2.2.2.2.2.1 u.2.2.2.2.2.2.2.2) (y0, y1, y2, y3, y4, y5, y6, y7, y8) hd hp) h)
/-! SkeletonTree$Pieces.kindByPoints()I -/
def t_Pieces_kindByPoints : List (Nat × Instr × Nat) := [(0, .aload_n 0, 1), (1, .getfield 30, 3), (4, .getfield 58, 3), (7, .invokestatic 98, 3), (10, .istore_n 1, 1), (11, .iload_n 1, 1), (12, .iconst 2, 1), (13, .if_icmp .ne 7, 3), (16, .iconst 0, 1), (17, .goto 13, 3), (20, .iload_n 1, 1), (21, .iconst 3, 1), (22, .if_icmp .ne 7, 3), (25, .iconst 1, 1), (26, .goto 4, 3), (29, .iconst 2, 1), (30, .ireturn, 1)]
set_option maxRecDepth 100000 in
theorem d_Pieces_kindByPoints : sk_T c_Pieces_kindByPoints t_Pieces_kindByPoints := by unfold sk_T t_Pieces_kindByPoints; decide +kernel
def w_Pieces_kindByPoints (cI cJ cZ : ClassId) (a_t a_firstEnd a_secondEnd a_home a_kindOf a_startAt a_links a_links_near a_links_nearTwice : Nat) (links_present : Int64) (slots : Int32) (count : Int32) : va_W := [(a_t, .inr (3, [.ref a_firstEnd, .ref a_secondEnd, .ref a_home, .ref a_kindOf, .ref a_startAt, .ref a_links, .int slots, .int count])), (a_links, .inr (0, [.ref a_links_near, .ref a_links_nearTwice, .long links_present]))]
def wp_Pieces_kindByPoints  (links_present : Int64)  (post : Int32 → Prop) : Prop :=
  wp_Long_bitCount links_present (fun r_1 => (¬ r_1 = 2 → (¬ r_1 = 3 → post 2 ) ∧ (r_1 = 3 → post 1 )) ∧ (r_1 = 2 → post 0 ))
set_option maxHeartbeats 4000000 in
set_option maxRecDepth 100000 in
theorem bd_Pieces_kindByPoints {p : Program} {l : Launch} {e : Env} {R : Room} {s : State} {m : MethodId} {args : Array Value} {below : List Frame} {meth : Method} {c : Code} {D : va_G} {A B : Nat → Prop} {Q : State → Prop} {cI cJ cZ : ClassId} {a_t a_firstEnd a_secondEnd a_home a_kindOf a_startAt a_links a_links_near a_links_nearTwice : Nat} {links_present : Int64} {slots : Int32} {count : Int32}  (K : sk_C p s m args meth c c_Pieces_kindByPoints 2 "SkeletonTree$Pieces" D (tyl cI cJ cZ)) (hR1 : 1 ≤ R.frames) (hR2 : 21 ≤ R.locals) {post : Int32 → Prop} (hend : ∀ (ti pc : Nat) (r : Int32)  (lv : List (Nat × Value)), t_Pieces_kindByPoints[ti]? = some (pc, .ireturn, 1) → post r  → AW p l e R s m args below meth c D A B 2 Q 0 0 (w_Pieces_kindByPoints cI cJ cZ a_t a_firstEnd a_secondEnd a_home a_kindOf a_startAt a_links a_links_near a_links_nearTwice links_present slots count) lv pc [.int r]) (h : wp_Pieces_kindByPoints links_present post) : AW p l e R s m args below meth c D A B 2 Q 0 0 (w_Pieces_kindByPoints cI cJ cZ a_t a_firstEnd a_secondEnd a_home a_kindOf a_startAt a_links a_links_near a_links_nearTwice links_present slots count) [(0, .ref a_t)] 0 [] := by
  unfold wp_Pieces_kindByPoints at h
  refine A_aload_n K d_Pieces_kindByPoints 0 0 (pc' := 1) rfl rfl rfl rfl ?_
  refine A_get K d_Pieces_kindByPoints 1 0 fl_Pieces_30 (pc' := 4) rfl rfl rfl rfl ?_
  refine A_get K d_Pieces_kindByPoints 2 1 fl_Pieces_58 (pc' := 7) rfl rfl rfl rfl ?_
  refine R_callS_i K d_Pieces_kindByPoints 3 [] (As := [.long links_present]) (rest := []) (pc' := 10) v_Pieces_98 ⟨rfl, rfl, Nat.le_trans (Nat.le_of_ble_eq_true rfl) hR1, Nat.le_trans (Nat.le_of_ble_eq_true rfl) hR2⟩ (fun sz => met_Long_bitCount l D cI cJ cZ links_present _ sz) h rfl rfl rfl rfl rfl rfl (Nat.le_of_ble_eq_true rfl) ⟨Nat.zero_le _, Nat.zero_le _⟩ (fun r_1 h => ?_)
  refine A_istore_n K d_Pieces_kindByPoints 4 (pc' := 11) (lv' := [(1, .int r_1), (0, .ref a_t)]) rfl rfl rfl (by decide) rfl ?_
  refine A_iload_n K d_Pieces_kindByPoints 5 0 (pc' := 12) rfl rfl rfl rfl ?_
  refine A_iconst K d_Pieces_kindByPoints 6 (pc' := 13) (v := 2) rfl rfl (by decide) ?_
  refine A_icmp_ne K d_Pieces_kindByPoints 7 20 (pc' := 16) rfl rfl rfl (fun q => ?_) (fun q => ?_)
  · replace h := h.1 q
    refine A_iload_n K d_Pieces_kindByPoints 10 0 (pc' := 21) rfl rfl rfl rfl ?_
    refine A_iconst K d_Pieces_kindByPoints 11 (pc' := 22) (v := 3) rfl rfl (by decide) ?_
    refine A_icmp_ne K d_Pieces_kindByPoints 12 29 (pc' := 25) rfl rfl rfl (fun q => ?_) (fun q => ?_)
    · replace h := h.1 q
      refine A_iconst K d_Pieces_kindByPoints 15 (pc' := 30) (v := 2) rfl rfl (by decide) ?_
      exact hend 16 _ _ _ rfl h
    · replace h := h.2 q
      refine A_iconst K d_Pieces_kindByPoints 13 (pc' := 26) (v := 1) rfl rfl (by decide) ?_
      refine A_goto K d_Pieces_kindByPoints 14 (pc' := 30) rfl rfl ?_
      exact hend 16 _ _ _ rfl h
  · replace h := h.2 q
    refine A_iconst K d_Pieces_kindByPoints 8 (pc' := 17) (v := 0) rfl rfl (by decide) ?_
    refine A_goto K d_Pieces_kindByPoints 9 (pc' := 30) rfl rfl ?_
    exact hend 16 _ _ _ rfl h
theorem met_Pieces_kindByPoints (l : Launch) (D : va_G) (cI cJ cZ : ClassId) (a_t a_firstEnd a_secondEnd a_home a_kindOf a_startAt a_links a_links_near a_links_nearTwice : Nat) (links_present : Int64) (slots : Int32) (count : Int32)  (post : Int32 → Prop) (sz : Nat) : Met l y_Pieces_kindByPoints (Cond.code y_Pieces_kindByPoints c_Pieces_kindByPoints 2 (Option.some Jvm.ClassFile.FieldType.int) :: GW) { frames := 1, cells := 0, slots := 0, locals := 21 } (va_Pc [.ref a_t] (fun U => sk_P D (tyl cI cJ cZ) (w_Pieces_kindByPoints cI cJ cZ a_t a_firstEnd a_secondEnd a_home a_kindOf a_startAt a_links a_links_near a_links_nearTwice links_present slots count) sz U ∧ wp_Pieces_kindByPoints links_present post)) (va_Qi (fun (r : Int32) (_ : Unit) => post r) (fun _ t => sk_B D (tyl cI cJ cZ) (w_Pieces_kindByPoints cI cJ cZ a_t a_firstEnd a_secondEnd a_home a_kindOf a_startAt a_links a_links_near a_links_nearTwice links_present slots count) (fun _ => True) t) (fun q => sz ≤ q)) 0 0 (fun q => sz ≤ q) :=
  sk_introR (by decide) (Nat.le_of_ble_eq_true rfl) (fun p e s m below meth c K hr _ h => bd_Pieces_kindByPoints K (Nat.le_refl _) (Nat.le_refl _) (fun ti pc r  lv hd hp => A_iret K d_Pieces_kindByPoints ti hr (post := (fun (r : Int32) (_ : Unit) => post r)) (wl := fun (_ : Unit) => w_Pieces_kindByPoints cI cJ cZ a_t a_firstEnd a_secondEnd a_home a_kindOf a_startAt a_links a_links_near a_links_nearTwice links_present slots count) () hd hp) h)
/-! SkeletonTree$Pieces.comeApartWholly()V -/
def t_Pieces_comeApartWholly : List (Nat × Instr × Nat) := [(0, .iconst 0, 1), (1, .istore_n 1, 1), (2, .iload_n 1, 1), (3, .bipush 98, 2), (5, .if_icmp .ge 32, 3), (8, .iload_n 1, 1), (9, .aload_n 0, 1), (10, .getfield 38, 3), (13, .if_icmp .ge 24, 3), (16, .aload_n 0, 1), (17, .iload_n 1, 1), (18, .invokevirtual 47, 3), (21, .aload_n 0, 1), (22, .getfield 21, 3), (25, .iload_n 1, 1), (26, .aload_n 0, 1), (27, .invokevirtual 51, 3), (30, .iastore, 1), (31, .iinc 1 1, 3), (34, .goto (-32), 3), (37, .return_, 1)]
set_option maxRecDepth 100000 in
theorem d_Pieces_comeApartWholly : sk_T c_Pieces_comeApartWholly t_Pieces_comeApartWholly := by unfold sk_T t_Pieces_comeApartWholly; decide +kernel
def w_Pieces_comeApartWholly (cI cJ cZ : ClassId) (a_t a_firstEnd a_secondEnd a_home a_kindOf a_startAt a_links a_links_near a_links_nearTwice : Nat) (firstEnd : Nat → Int32) (secondEnd : Nat → Int32) (home : Nat → Int32) (kindOf : Nat → Int32) (startAt : Nat → Int32) (links_near : Nat → Int64) (links_nearTwice : Nat → Int64) (links_present : Int64) (slots : Int32) (count : Int32) : va_W := [(a_t, .inr (3, [.ref a_firstEnd, .ref a_secondEnd, .ref a_home, .ref a_kindOf, .ref a_startAt, .ref a_links, .int slots, .int count])), (a_firstEnd, .inl (cI, 294, .inl firstEnd)), (a_secondEnd, .inl (cI, 294, .inl secondEnd)), (a_home, .inl (cI, 294, .inl home)), (a_kindOf, .inl (cI, 98, .inl kindOf)), (a_startAt, .inl (cI, 98, .inl startAt)), (a_links, .inr (0, [.ref a_links_near, .ref a_links_nearTwice, .long links_present])), (a_links_near, .inl (cJ, 40, .inr (.inl links_near))), (a_links_nearTwice, .inl (cJ, 40, .inr (.inl links_nearTwice)))]
def wp_Pieces_comeApartWholly  (firstEnd : Nat → Int32) (secondEnd : Nat → Int32) (home : Nat → Int32) (kindOf : Nat → Int32) (startAt : Nat → Int32) (links_near : Nat → Int64) (links_nearTwice : Nat → Int64) (links_present : Int64) (slots : Int32) (count : Int32)  (post : (Nat → Int32) → (Nat → Int32) → (Nat → Int32) → (Nat → Int32) → (Nat → Int32) → (Nat → Int64) → (Nat → Int64) → Int64 → Int32 → Int32 → Prop) : Prop :=
  ∃ n, sL11 (fun (K_12 : Int32 → (Nat → Int32) → (Nat → Int32) → (Nat → Int32) → (Nat → Int32) → (Nat → Int32) → (Nat → Int64) → (Nat → Int64) → Int64 → Int32 → Int32 → Prop) (i1_1 : Int32) (firstEnd_2 : Nat → Int32) (secondEnd_3 : Nat → Int32) (home_4 : Nat → Int32) (kindOf_5 : Nat → Int32) (startAt_6 : Nat → Int32) (links_near_7 : Nat → Int64) (links_nearTwice_8 : Nat → Int64) (links_present_9 : Int64) (slots_10 : Int32) (count_11 : Int32) => (98 ≤ i1_1 → post firstEnd_2 secondEnd_3 home_4 kindOf_5 startAt_6 links_near_7 links_nearTwice_8 links_present_9 slots_10 count_11) ∧ (¬ 98 ≤ i1_1 → (count_11 ≤ i1_1 → post firstEnd_2 secondEnd_3 home_4 kindOf_5 startAt_6 links_near_7 links_nearTwice_8 links_present_9 slots_10 count_11) ∧ (¬ count_11 ≤ i1_1 → wp_Pieces_comeApartFrom firstEnd_2 secondEnd_3 home_4 startAt_6 links_near_7 links_nearTwice_8 links_present_9 slots_10 count_11 i1_1 (fun firstEnd_15 secondEnd_16 home_17 startAt_18 links_near_19 links_nearTwice_20 links_present_21 slots_22 count_23 => wp_Pieces_kindByPoints links_present_21 (fun r_24 => vp_in i1_1 98 ∧ ∀ kindOf_25 : Nat → Int32, kindOf_25 = upd kindOf_5 (ix i1_1) r_24 → K_12 (i1_1 + 1) firstEnd_15 secondEnd_16 home_17 kindOf_25 startAt_18 links_near_19 links_nearTwice_20 links_present_21 slots_22 count_23))))) n 0 firstEnd secondEnd home kindOf startAt links_near links_nearTwice links_present slots count
set_option maxHeartbeats 4000000 in
set_option maxRecDepth 100000 in
theorem bd_Pieces_comeApartWholly {p : Program} {l : Launch} {e : Env} {R : Room} {s : State} {m : MethodId} {args : Array Value} {below : List Frame} {meth : Method} {c : Code} {D : va_G} {A B : Nat → Prop} {Q : State → Prop} {cI cJ cZ : ClassId} {a_t a_firstEnd a_secondEnd a_home a_kindOf a_startAt a_links a_links_near a_links_nearTwice : Nat} {firstEnd : Nat → Int32} {secondEnd : Nat → Int32} {home : Nat → Int32} {kindOf : Nat → Int32} {startAt : Nat → Int32} {links_near : Nat → Int64} {links_nearTwice : Nat → Int64} {links_present : Int64} {slots : Int32} {count : Int32}  (K : sk_C p s m args meth c c_Pieces_comeApartWholly 2 "SkeletonTree$Pieces" D (tyl cI cJ cZ)) (hR1 : 5 ≤ R.frames) (hR2 : 126 ≤ R.locals) (hBA : ∀ q : Nat, B q → A q) {post : (Nat → Int32) → (Nat → Int32) → (Nat → Int32) → (Nat → Int32) → (Nat → Int32) → (Nat → Int64) → (Nat → Int64) → Int64 → Int32 → Int32 → Prop} (hend : ∀ (ti pc : Nat)  (y0 : Nat → Int32) (y1 : Nat → Int32) (y2 : Nat → Int32) (y3 : Nat → Int32) (y4 : Nat → Int32) (y5 : Nat → Int64) (y6 : Nat → Int64) (y7 : Int64) (y8 : Int32) (y9 : Int32) (lv : List (Nat × Value)), t_Pieces_comeApartWholly[ti]? = some (pc, .return_, 1) → post  y0 y1 y2 y3 y4 y5 y6 y7 y8 y9 → AW p l e R s m args below meth c D A B 2 Q 0 0 (w_Pieces_comeApartWholly cI cJ cZ a_t a_firstEnd a_secondEnd a_home a_kindOf a_startAt a_links a_links_near a_links_nearTwice y0 y1 y2 y3 y4 y5 y6 y7 y8 y9) lv pc []) (h : wp_Pieces_comeApartWholly firstEnd secondEnd home kindOf startAt links_near links_nearTwice links_present slots count post) : AW p l e R s m args below meth c D A B 2 Q 0 0 (w_Pieces_comeApartWholly cI cJ cZ a_t a_firstEnd a_secondEnd a_home a_kindOf a_startAt a_links a_links_near a_links_nearTwice firstEnd secondEnd home kindOf startAt links_near links_nearTwice links_present slots count) [(0, .ref a_t)] 0 [] := by
  unfold wp_Pieces_comeApartWholly at h
  refine A_iconst K d_Pieces_comeApartWholly 0 (pc' := 1) (v := 0) rfl rfl (by decide) ?_
  refine A_istore_n K d_Pieces_comeApartWholly 1 (pc' := 2) (lv' := [(1, .int 0), (0, .ref a_t)]) rfl rfl rfl (by decide) rfl ?_
  refine A_lv [1, 0] rfl ?_
  obtain ⟨n_14, h⟩ := h
  refine sL11_ind (fun (i1_1 : Int32) (firstEnd_2 : Nat → Int32) (secondEnd_3 : Nat → Int32) (home_4 : Nat → Int32) (kindOf_5 : Nat → Int32) (startAt_6 : Nat → Int32) (links_near_7 : Nat → Int64) (links_nearTwice_8 : Nat → Int64) (links_present_9 : Int64) (slots_10 : Int32) (count_11 : Int32) => AW p l e R s m args below meth c D A B 2 Q 0 0 (w_Pieces_comeApartWholly cI cJ cZ a_t a_firstEnd a_secondEnd a_home a_kindOf a_startAt a_links a_links_near a_links_nearTwice firstEnd_2 secondEnd_3 home_4 kindOf_5 startAt_6 links_near_7 links_nearTwice_8 links_present_9 slots_10 count_11) [(0, .ref a_t), (1, .int i1_1)] 2 []) ?_ n_14 _ _ _ _ _ _ _ _ _ _ _ h
  intro K_12 ih_13 i1_1 firstEnd_2 secondEnd_3 home_4 kindOf_5 startAt_6 links_near_7 links_nearTwice_8 links_present_9 slots_10 count_11 h
  refine A_iload_n K d_Pieces_comeApartWholly 2 1 (pc' := 3) rfl rfl rfl rfl ?_
  refine A_bipush K d_Pieces_comeApartWholly 3 (pc' := 5) (v := 98) rfl rfl (by decide) ?_
  refine A_icmp_ge K d_Pieces_comeApartWholly 4 37 (pc' := 8) rfl rfl rfl (fun q => ?_) (fun q => ?_)
  · replace h := h.1 q
    exact hend 20 _ _ _ _ _ _ _ _ _ _ _ _ rfl h
  · replace h := h.2 q
    refine A_iload_n K d_Pieces_comeApartWholly 5 1 (pc' := 9) rfl rfl rfl rfl ?_
    refine A_aload_n K d_Pieces_comeApartWholly 6 0 (pc' := 10) rfl rfl rfl rfl ?_
    refine A_get K d_Pieces_comeApartWholly 7 0 fl_Pieces_38 (pc' := 13) rfl rfl rfl rfl ?_
    refine A_icmp_ge K d_Pieces_comeApartWholly 8 37 (pc' := 16) rfl rfl rfl (fun q => ?_) (fun q => ?_)
    · replace h := h.1 q
      exact hend 20 _ _ _ _ _ _ _ _ _ _ _ _ rfl h
    · replace h := h.2 q
      refine A_aload_n K d_Pieces_comeApartWholly 9 0 (pc' := 17) rfl rfl rfl rfl ?_
      refine A_iload_n K d_Pieces_comeApartWholly 10 1 (pc' := 18) rfl rfl rfl rfl ?_
      refine C_Vv9 K hBA d_Pieces_comeApartWholly 11 [0, 1, 2, 3, 5, 6, 7, 8] [some 0, some 1, some 2, some 3, none, some 4, some 5, some 6, some 7] (As := [.int i1_1]) (rest := []) (pc' := 21) (wl := fun firstEnd_15 secondEnd_16 home_17 startAt_18 links_near_19 links_nearTwice_20 links_present_21 slots_22 count_23 => w_Pieces_comeApartFrom cI cJ cZ a_t a_firstEnd a_secondEnd a_home a_kindOf a_startAt a_links a_links_near a_links_nearTwice firstEnd_15 secondEnd_16 home_17 startAt_18 links_near_19 links_nearTwice_20 links_present_21 slots_22 count_23) (ws' := fun firstEnd_15 secondEnd_16 home_17 startAt_18 links_near_19 links_nearTwice_20 links_present_21 slots_22 count_23 => w_Pieces_comeApartWholly cI cJ cZ a_t a_firstEnd a_secondEnd a_home a_kindOf a_startAt a_links a_links_near a_links_nearTwice firstEnd_15 secondEnd_16 home_17 kindOf_5 startAt_18 links_near_19 links_nearTwice_20 links_present_21 slots_22 count_23) v_Pieces_47 ⟨rfl, rfl, Nat.le_trans (Nat.le_of_ble_eq_true rfl) hR1, Nat.le_trans (Nat.le_of_ble_eq_true rfl) hR2⟩ (fun sz => met_Pieces_comeApartFrom l D cI cJ cZ a_t a_firstEnd a_secondEnd a_home a_kindOf a_startAt a_links a_links_near a_links_nearTwice firstEnd_2 secondEnd_3 home_4 startAt_6 links_near_7 links_nearTwice_8 links_present_9 slots_10 count_11 i1_1 _ sz) h rfl rfl rfl rfl rfl (fun _ _ _ _ _ _ _ _ _ => rfl) rfl (by decide) (Nat.le_of_ble_eq_true rfl) ⟨Nat.zero_le _, Nat.zero_le _⟩ (q0 := 0) rfl rfl (fun _ _ _ _ _ _ _ _ _ => rfl) (fun firstEnd_15 secondEnd_16 home_17 startAt_18 links_near_19 links_nearTwice_20 links_present_21 slots_22 count_23 h => ?_)
      refine A_aload_n K d_Pieces_comeApartWholly 12 0 (pc' := 22) rfl rfl rfl rfl ?_
      refine A_get K d_Pieces_comeApartWholly 13 0 fl_Pieces_21 (pc' := 25) rfl rfl rfl rfl ?_
      refine A_iload_n K d_Pieces_comeApartWholly 14 1 (pc' := 26) rfl rfl rfl rfl ?_
      refine A_aload_n K d_Pieces_comeApartWholly 15 0 (pc' := 27) rfl rfl rfl rfl ?_
      refine R_callV_i K d_Pieces_comeApartWholly 16 [0, 6] (As := []) (rest := [.int i1_1, .ref a_kindOf]) (pc' := 30) v_Pieces_51 ⟨rfl, rfl, Nat.le_trans (Nat.le_of_ble_eq_true rfl) hR1, Nat.le_trans (Nat.le_of_ble_eq_true rfl) hR2⟩ (fun sz => met_Pieces_kindByPoints l D cI cJ cZ a_t a_firstEnd a_secondEnd a_home a_kindOf a_startAt a_links a_links_near a_links_nearTwice links_present_21 slots_22 count_23 _ sz) h rfl rfl rfl rfl rfl rfl (Nat.le_of_ble_eq_true rfl) ⟨Nat.zero_le _, Nat.zero_le _⟩ (q0 := 0) rfl rfl (fun r_24 h => ?_)
      refine A_iastN K hBA d_Pieces_comeApartWholly 17 4 0 (pc' := 31) (ws' := fun kindOf_25 => w_Pieces_comeApartWholly cI cJ cZ a_t a_firstEnd a_secondEnd a_home a_kindOf a_startAt a_links a_links_near a_links_nearTwice firstEnd_15 secondEnd_16 home_17 kindOf_25 startAt_18 links_near_19 links_nearTwice_20 links_present_21 slots_22 count_23) rfl rfl rfl rfl h.1 (fun _ => rfl) (fun kindOf_25 e_26 => ?_)
      replace h := h.2 kindOf_25 e_26
      refine A_iinc K d_Pieces_comeApartWholly 18 1 (pc' := 34) (v := i1_1 + 1) (lv' := [(1, .int (i1_1 + 1)), (0, .ref a_t)]) rfl rfl rfl rfl (by decide) rfl ?_
      refine A_goto K d_Pieces_comeApartWholly 19 (pc' := 2) rfl rfl ?_
      refine A_lv [1, 0] rfl ?_
      exact ih_13 _ _ _ _ _ _ _ _ _ _ _ h
theorem met_Pieces_comeApartWholly (l : Launch) (D : va_G) (cI cJ cZ : ClassId) (a_t a_firstEnd a_secondEnd a_home a_kindOf a_startAt a_links a_links_near a_links_nearTwice : Nat) (firstEnd : Nat → Int32) (secondEnd : Nat → Int32) (home : Nat → Int32) (kindOf : Nat → Int32) (startAt : Nat → Int32) (links_near : Nat → Int64) (links_nearTwice : Nat → Int64) (links_present : Int64) (slots : Int32) (count : Int32)  (post : (Nat → Int32) → (Nat → Int32) → (Nat → Int32) → (Nat → Int32) → (Nat → Int32) → (Nat → Int64) → (Nat → Int64) → Int64 → Int32 → Int32 → Prop) (sz : Nat) : Met l y_Pieces_comeApartWholly (Cond.code y_Pieces_comeApartWholly c_Pieces_comeApartWholly 2 (Option.none : Option Jvm.ClassFile.FieldType) :: GW) { frames := 5, cells := 0, slots := 0, locals := 126 } (va_Pc [.ref a_t] (fun U => sk_P D (tyl cI cJ cZ) (w_Pieces_comeApartWholly cI cJ cZ a_t a_firstEnd a_secondEnd a_home a_kindOf a_startAt a_links a_links_near a_links_nearTwice firstEnd secondEnd home kindOf startAt links_near links_nearTwice links_present slots count) sz U ∧ wp_Pieces_comeApartWholly firstEnd secondEnd home kindOf startAt links_near links_nearTwice links_present slots count post)) (va_Qv (fun (u : (Nat → Int32) × (Nat → Int32) × (Nat → Int32) × (Nat → Int32) × (Nat → Int32) × (Nat → Int64) × (Nat → Int64) × Int64 × Int32 × Int32) => post  u.1 u.2.1 u.2.2.1 u.2.2.2.1 u.2.2.2.2.1 u.2.2.2.2.2.1 u.2.2.2.2.2.2.1 u.2.2.2.2.2.2.2.1 u.2.2.2.2.2.2.2.2.1 u.2.2.2.2.2.2.2.2.2) (fun u t => sk_B D (tyl cI cJ cZ) (w_Pieces_comeApartWholly cI cJ cZ a_t a_firstEnd a_secondEnd a_home a_kindOf a_startAt a_links a_links_near a_links_nearTwice u.1 u.2.1 u.2.2.1 u.2.2.2.1 u.2.2.2.2.1 u.2.2.2.2.2.1 u.2.2.2.2.2.2.1 u.2.2.2.2.2.2.2.1 u.2.2.2.2.2.2.2.2.1 u.2.2.2.2.2.2.2.2.2) (va_A (w_Pieces_comeApartWholly cI cJ cZ a_t a_firstEnd a_secondEnd a_home a_kindOf a_startAt a_links a_links_near a_links_nearTwice firstEnd secondEnd home kindOf startAt links_near links_nearTwice links_present slots count) sz) t) (va_A (w_Pieces_comeApartWholly cI cJ cZ a_t a_firstEnd a_secondEnd a_home a_kindOf a_startAt a_links a_links_near a_links_nearTwice firstEnd secondEnd home kindOf startAt links_near links_nearTwice links_present slots count) sz)) 0 0 (va_A (w_Pieces_comeApartWholly cI cJ cZ a_t a_firstEnd a_secondEnd a_home a_kindOf a_startAt a_links a_links_near a_links_nearTwice firstEnd secondEnd home kindOf startAt links_near links_nearTwice links_present slots count) sz) :=
  sk_intro (by decide) (Nat.le_of_ble_eq_true rfl) (fun p e s m below meth c K hr _ h => bd_Pieces_comeApartWholly K (Nat.le_refl _) (Nat.le_refl _) (fun _ z => z) (fun ti pc y0 y1 y2 y3 y4 y5 y6 y7 y8 y9 lv hd hp => A_vret K d_Pieces_comeApartWholly ti hr (post := (fun (u : (Nat → Int32) × (Nat → Int32) × (Nat → Int32) × (Nat → Int32) × (Nat → Int32) × (Nat → Int64) × (Nat → Int64) × Int64 × Int32 × Int32) => post  u.1 u.2.1 u.2.2.1 u.2.2.2.1 u.2.2.2.2.1 u.2.2.2.2.2.1 u.2.2.2.2.2.2.1 u.2.2.2.2.2.2.2.1 u.2.2.2.2.2.2.2.2.1 u.2.2.2.2.2.2.2.2.2)) (wl := fun (u : (Nat → Int32) × (Nat → Int32) × (Nat → Int32) × (Nat → Int32) × (Nat → Int32) × (Nat → Int64) × (Nat → Int64) × Int64 × Int32 × Int32) => w_Pieces_comeApartWholly cI cJ cZ a_t a_firstEnd a_secondEnd a_home a_kindOf a_startAt a_links a_links_near a_links_nearTwice u.1 u.2.1 u.2.2.1 u.2.2.2.1 u.2.2.2.2.1 u.2.2.2.2.2.1 u.2.2.2.2.2.2.1 u.2.2.2.2.2.2.2.1 u.2.2.2.2.2.2.2.2.1 u.2.2.2.2.2.2.2.2.2) (y0, y1, y2, y3, y4, y5, y6, y7, y8, y9) hd hp) h)
/-! SkeletonTree$Pieces.moveAll(II)V -/
def t_Pieces_moveAll : List (Nat × Instr × Nat) := [(0, .iconst 0, 1), (1, .istore_n 3, 1), (2, .iload_n 3, 1), (3, .aload_n 0, 1), (4, .getfield 34, 3), (7, .if_icmp .ge 26, 3), (10, .aload_n 0, 1), (11, .getfield 18, 3), (14, .iload_n 3, 1), (15, .iaload, 1), (16, .iload_n 1, 1), (17, .if_icmp .ne 10, 3), (20, .aload_n 0, 1), (21, .getfield 18, 3), (24, .iload_n 3, 1), (25, .iload_n 2, 1), (26, .iastore, 1), (27, .iinc 3 1, 3), (30, .goto (-28), 3), (33, .return_, 1)]
set_option maxRecDepth 100000 in
theorem d_Pieces_moveAll : sk_T c_Pieces_moveAll t_Pieces_moveAll := by unfold sk_T t_Pieces_moveAll; decide +kernel
def w_Pieces_moveAll (cI cJ cZ : ClassId) (a_t a_firstEnd a_secondEnd a_home a_kindOf a_startAt a_links : Nat) (home : Nat → Int32) (slots : Int32) (count : Int32) : va_W := [(a_t, .inr (3, [.ref a_firstEnd, .ref a_secondEnd, .ref a_home, .ref a_kindOf, .ref a_startAt, .ref a_links, .int slots, .int count])), (a_home, .inl (cI, 294, .inl home))]
def wp_Pieces_moveAll  (home : Nat → Int32) (slots : Int32) (x1 : Int32) (x2 : Int32) (post : (Nat → Int32) → Prop) : Prop :=
  ∃ n, sL2 (fun (K_3 : Int32 → (Nat → Int32) → Prop) (i3_1 : Int32) (home_2 : Nat → Int32) => (slots ≤ i3_1 → post home_2) ∧ (¬ slots ≤ i3_1 → vp_in i3_1 294 ∧ (¬ (home_2 (ix i3_1)) = x1 → K_3 (i3_1 + 1) home_2) ∧ ((home_2 (ix i3_1)) = x1 → vp_in i3_1 294 ∧ ∀ home_6 : Nat → Int32, home_6 = upd home_2 (ix i3_1) x2 → K_3 (i3_1 + 1) home_6))) n 0 home
set_option maxHeartbeats 4000000 in
set_option maxRecDepth 100000 in
theorem bd_Pieces_moveAll {p : Program} {l : Launch} {e : Env} {R : Room} {s : State} {m : MethodId} {args : Array Value} {below : List Frame} {meth : Method} {c : Code} {D : va_G} {A B : Nat → Prop} {Q : State → Prop} {cI cJ cZ : ClassId} {a_t a_firstEnd a_secondEnd a_home a_kindOf a_startAt a_links : Nat} {home : Nat → Int32} {slots : Int32} {count : Int32} {x1 : Int32} {x2 : Int32} (K : sk_C p s m args meth c c_Pieces_moveAll 4 "SkeletonTree$Pieces" D (tyl cI cJ cZ)) (hR1 : 0 ≤ R.frames) (hR2 : 0 ≤ R.locals) (hBA : ∀ q : Nat, B q → A q) {post : (Nat → Int32) → Prop} (hend : ∀ (ti pc : Nat)  (y0 : Nat → Int32) (lv : List (Nat × Value)), t_Pieces_moveAll[ti]? = some (pc, .return_, 1) → post  y0 → AW p l e R s m args below meth c D A B 4 Q 0 0 (w_Pieces_moveAll cI cJ cZ a_t a_firstEnd a_secondEnd a_home a_kindOf a_startAt a_links y0 slots count) lv pc []) (h : wp_Pieces_moveAll home slots x1 x2 post) : AW p l e R s m args below meth c D A B 4 Q 0 0 (w_Pieces_moveAll cI cJ cZ a_t a_firstEnd a_secondEnd a_home a_kindOf a_startAt a_links home slots count) [(0, .ref a_t), (1, .int x1), (2, .int x2)] 0 [] := by
  unfold wp_Pieces_moveAll at h
  refine A_iconst K d_Pieces_moveAll 0 (pc' := 1) (v := 0) rfl rfl (by decide) ?_
  refine A_istore_n K d_Pieces_moveAll 1 (pc' := 2) (lv' := [(3, .int 0), (0, .ref a_t), (1, .int x1), (2, .int x2)]) rfl rfl rfl (by decide) rfl ?_
  refine A_lv [1, 2, 3, 0] rfl ?_
  obtain ⟨n_5, h⟩ := h
  refine sL2_ind (fun (i3_1 : Int32) (home_2 : Nat → Int32) => AW p l e R s m args below meth c D A B 4 Q 0 0 (w_Pieces_moveAll cI cJ cZ a_t a_firstEnd a_secondEnd a_home a_kindOf a_startAt a_links home_2 slots count) [(0, .ref a_t), (1, .int x1), (2, .int x2), (3, .int i3_1)] 2 []) ?_ n_5 _ _ h
  intro K_3 ih_4 i3_1 home_2 h
  refine A_iload_n K d_Pieces_moveAll 2 3 (pc' := 3) rfl rfl rfl rfl ?_
  refine A_aload_n K d_Pieces_moveAll 3 0 (pc' := 4) rfl rfl rfl rfl ?_
  refine A_get K d_Pieces_moveAll 4 0 fl_Pieces_34 (pc' := 7) rfl rfl rfl rfl ?_
  refine A_icmp_ge K d_Pieces_moveAll 5 33 (pc' := 10) rfl rfl rfl (fun q => ?_) (fun q => ?_)
  · replace h := h.1 q
    exact hend 19 _ _ _ rfl h
  · replace h := h.2 q
    refine A_aload_n K d_Pieces_moveAll 6 0 (pc' := 11) rfl rfl rfl rfl ?_
    refine A_get K d_Pieces_moveAll 7 0 fl_Pieces_18 (pc' := 14) rfl rfl rfl rfl ?_
    refine A_iload_n K d_Pieces_moveAll 8 3 (pc' := 15) rfl rfl rfl rfl ?_
    refine A_iald K d_Pieces_moveAll 9 1 0 (pc' := 16) rfl rfl rfl rfl h.1 ?_
    replace h := h.2
    refine A_iload_n K d_Pieces_moveAll 10 1 (pc' := 17) rfl rfl rfl rfl ?_
    refine A_icmp_ne K d_Pieces_moveAll 11 27 (pc' := 20) rfl rfl rfl (fun q => ?_) (fun q => ?_)
    · replace h := h.1 q
      refine A_iinc K d_Pieces_moveAll 17 3 (pc' := 30) (v := i3_1 + 1) (lv' := [(3, .int (i3_1 + 1)), (0, .ref a_t), (1, .int x1), (2, .int x2)]) rfl rfl rfl rfl (by decide) rfl ?_
      refine A_goto K d_Pieces_moveAll 18 (pc' := 2) rfl rfl ?_
      refine A_lv [1, 2, 3, 0] rfl ?_
      exact ih_4 _ _ h
    · replace h := h.2 q
      refine A_aload_n K d_Pieces_moveAll 12 0 (pc' := 21) rfl rfl rfl rfl ?_
      refine A_get K d_Pieces_moveAll 13 0 fl_Pieces_18 (pc' := 24) rfl rfl rfl rfl ?_
      refine A_iload_n K d_Pieces_moveAll 14 3 (pc' := 25) rfl rfl rfl rfl ?_
      refine A_iload_n K d_Pieces_moveAll 15 2 (pc' := 26) rfl rfl rfl rfl ?_
      refine A_iastN K hBA d_Pieces_moveAll 16 1 0 (pc' := 27) (ws' := fun home_6 => w_Pieces_moveAll cI cJ cZ a_t a_firstEnd a_secondEnd a_home a_kindOf a_startAt a_links home_6 slots count) rfl rfl rfl rfl h.1 (fun _ => rfl) (fun home_6 e_7 => ?_)
      replace h := h.2 home_6 e_7
      refine A_iinc K d_Pieces_moveAll 17 3 (pc' := 30) (v := i3_1 + 1) (lv' := [(3, .int (i3_1 + 1)), (0, .ref a_t), (1, .int x1), (2, .int x2)]) rfl rfl rfl rfl (by decide) rfl ?_
      refine A_goto K d_Pieces_moveAll 18 (pc' := 2) rfl rfl ?_
      refine A_lv [1, 2, 3, 0] rfl ?_
      exact ih_4 _ _ h
theorem met_Pieces_moveAll (l : Launch) (D : va_G) (cI cJ cZ : ClassId) (a_t a_firstEnd a_secondEnd a_home a_kindOf a_startAt a_links : Nat) (home : Nat → Int32) (slots : Int32) (count : Int32) (x1 : Int32) (x2 : Int32) (post : (Nat → Int32) → Prop) (sz : Nat) : Met l y_Pieces_moveAll (Cond.code y_Pieces_moveAll c_Pieces_moveAll 4 (Option.none : Option Jvm.ClassFile.FieldType) :: GW) { frames := 0, cells := 0, slots := 0, locals := 0 } (va_Pc [.ref a_t, .int x1, .int x2] (fun U => sk_P D (tyl cI cJ cZ) (w_Pieces_moveAll cI cJ cZ a_t a_firstEnd a_secondEnd a_home a_kindOf a_startAt a_links home slots count) sz U ∧ wp_Pieces_moveAll home slots x1 x2 post)) (va_Qv (fun (u : (Nat → Int32)) => post  u) (fun u t => sk_B D (tyl cI cJ cZ) (w_Pieces_moveAll cI cJ cZ a_t a_firstEnd a_secondEnd a_home a_kindOf a_startAt a_links u slots count) (va_A (w_Pieces_moveAll cI cJ cZ a_t a_firstEnd a_secondEnd a_home a_kindOf a_startAt a_links home slots count) sz) t) (va_A (w_Pieces_moveAll cI cJ cZ a_t a_firstEnd a_secondEnd a_home a_kindOf a_startAt a_links home slots count) sz)) 0 0 (va_A (w_Pieces_moveAll cI cJ cZ a_t a_firstEnd a_secondEnd a_home a_kindOf a_startAt a_links home slots count) sz) :=
  sk_intro (by decide) (Nat.le_of_ble_eq_true rfl) (fun p e s m below meth c K hr _ h => bd_Pieces_moveAll K (Nat.le_refl _) (Nat.le_refl _) (fun _ z => z) (fun ti pc y0 lv hd hp => A_vret K d_Pieces_moveAll ti hr (post := (fun (u : (Nat → Int32)) => post  u)) (wl := fun (u : (Nat → Int32)) => w_Pieces_moveAll cI cJ cZ a_t a_firstEnd a_secondEnd a_home a_kindOf a_startAt a_links u slots count) y0 hd hp) h)
/-! SkeletonTree$Pieces.uniteRings()V -/
def t_Pieces_uniteRings : List (Nat × Instr × Nat) := [(0, .bipush 100, 2), (2, .istore_n 1, 1), (3, .iload_n 1, 1), (4, .aload_n 0, 1), (5, .getfield 34, 3), (8, .if_icmp .ge 67, 3), (11, .aload_n 0, 1), (12, .getfield 18, 3), (15, .iload_n 1, 1), (16, .iaload, 1), (17, .istore_n 2, 1), (18, .aload_n 0, 1), (19, .getfield 18, 3), (22, .iload_n 1, 1), (23, .iconst 1, 1), (24, .iadd, 1), (25, .iaload, 1), (26, .istore_n 3, 1), (27, .aload_n 0, 1), (28, .getfield 21, 3), (31, .iload_n 2, 1), (32, .iaload, 1), (33, .iconst 1, 1), (34, .if_icmp .ne 35, 3), (37, .aload_n 0, 1), (38, .getfield 21, 3), (41, .iload_n 3, 1), (42, .iaload, 1), (43, .iconst 1, 1), (44, .if_icmp .ne 25, 3), (47, .aload_n 0, 1), (48, .getfield 18, 3), (51, .iload_n 1, 1), (52, .iconst (-1), 1), (53, .iastore, 1), (54, .aload_n 0, 1), (55, .getfield 18, 3), (58, .iload_n 1, 1), (59, .iconst 1, 1), (60, .iadd, 1), (61, .iconst (-1), 1), (62, .iastore, 1), (63, .aload_n 0, 1), (64, .iload_n 3, 1), (65, .iload_n 2, 1), (66, .invokevirtual 104, 3), (69, .iinc 1 2, 3), (72, .goto (-69), 3), (75, .return_, 1)]
set_option maxRecDepth 100000 in
theorem d_Pieces_uniteRings : sk_T c_Pieces_uniteRings t_Pieces_uniteRings := by unfold sk_T t_Pieces_uniteRings; decide +kernel
def w_Pieces_uniteRings (cI cJ cZ : ClassId) (a_t a_firstEnd a_secondEnd a_home a_kindOf a_startAt a_links : Nat) (home : Nat → Int32) (kindOf : Nat → Int32) (slots : Int32) (count : Int32) : va_W := [(a_t, .inr (3, [.ref a_firstEnd, .ref a_secondEnd, .ref a_home, .ref a_kindOf, .ref a_startAt, .ref a_links, .int slots, .int count])), (a_home, .inl (cI, 294, .inl home)), (a_kindOf, .inl (cI, 98, .inl kindOf))]
def wp_Pieces_uniteRings  (home : Nat → Int32) (kindOf : Nat → Int32) (slots : Int32)  (post : (Nat → Int32) → Prop) : Prop :=
  ∃ n, sL2 (fun (K_3 : Int32 → (Nat → Int32) → Prop) (i1_1 : Int32) (home_2 : Nat → Int32) => (slots ≤ i1_1 → post home_2) ∧ (¬ slots ≤ i1_1 → vp_in i1_1 294 ∧ vp_in (i1_1 + 1) 294 ∧ vp_in (home_2 (ix i1_1)) 98 ∧ (¬ (kindOf (ix (home_2 (ix i1_1)))) = 1 → K_3 (i1_1 + 2) home_2) ∧ ((kindOf (ix (home_2 (ix i1_1)))) = 1 → vp_in (home_2 (ix (i1_1 + 1))) 98 ∧ ∀ x_6 : Int32, x_6 = kindOf (ix (home_2 (ix (i1_1 + 1)))) → (¬ x_6 = 1 → K_3 (i1_1 + 2) home_2) ∧ (x_6 = 1 → vp_in i1_1 294 ∧ ∀ home_8 : Nat → Int32, home_8 = upd home_2 (ix i1_1) (-1) → vp_in (i1_1 + 1) 294 ∧ ∀ home_10 : Nat → Int32, home_10 = upd home_8 (ix (i1_1 + 1)) (-1) → wp_Pieces_moveAll home_10 slots (home_2 (ix (i1_1 + 1))) (home_2 (ix i1_1)) (fun home_12 => K_3 (i1_1 + 2) home_12))))) n 100 home
set_option maxHeartbeats 4000000 in
set_option maxRecDepth 100000 in
theorem bd_Pieces_uniteRings {p : Program} {l : Launch} {e : Env} {R : Room} {s : State} {m : MethodId} {args : Array Value} {below : List Frame} {meth : Method} {c : Code} {D : va_G} {A B : Nat → Prop} {Q : State → Prop} {cI cJ cZ : ClassId} {a_t a_firstEnd a_secondEnd a_home a_kindOf a_startAt a_links : Nat} {home : Nat → Int32} {kindOf : Nat → Int32} {slots : Int32} {count : Int32}  (K : sk_C p s m args meth c c_Pieces_uniteRings 4 "SkeletonTree$Pieces" D (tyl cI cJ cZ)) (hR1 : 1 ≤ R.frames) (hR2 : 23 ≤ R.locals) (hBA : ∀ q : Nat, B q → A q) {post : (Nat → Int32) → Prop} (hend : ∀ (ti pc : Nat)  (y0 : Nat → Int32) (lv : List (Nat × Value)), t_Pieces_uniteRings[ti]? = some (pc, .return_, 1) → post  y0 → AW p l e R s m args below meth c D A B 4 Q 0 0 (w_Pieces_uniteRings cI cJ cZ a_t a_firstEnd a_secondEnd a_home a_kindOf a_startAt a_links y0 kindOf slots count) lv pc []) (h : wp_Pieces_uniteRings home kindOf slots post) : AW p l e R s m args below meth c D A B 4 Q 0 0 (w_Pieces_uniteRings cI cJ cZ a_t a_firstEnd a_secondEnd a_home a_kindOf a_startAt a_links home kindOf slots count) [(0, .ref a_t)] 0 [] := by
  unfold wp_Pieces_uniteRings at h
  refine A_bipush K d_Pieces_uniteRings 0 (pc' := 2) (v := 100) rfl rfl (by decide) ?_
  refine A_istore_n K d_Pieces_uniteRings 1 (pc' := 3) (lv' := [(1, .int 100), (0, .ref a_t)]) rfl rfl rfl (by decide) rfl ?_
  refine A_lv [1, 0] rfl ?_
  obtain ⟨n_5, h⟩ := h
  refine sL2_ind (fun (i1_1 : Int32) (home_2 : Nat → Int32) => AW p l e R s m args below meth c D A B 4 Q 0 0 (w_Pieces_uniteRings cI cJ cZ a_t a_firstEnd a_secondEnd a_home a_kindOf a_startAt a_links home_2 kindOf slots count) [(0, .ref a_t), (1, .int i1_1)] 3 []) ?_ n_5 _ _ h
  intro K_3 ih_4 i1_1 home_2 h
  refine A_iload_n K d_Pieces_uniteRings 2 1 (pc' := 4) rfl rfl rfl rfl ?_
  refine A_aload_n K d_Pieces_uniteRings 3 0 (pc' := 5) rfl rfl rfl rfl ?_
  refine A_get K d_Pieces_uniteRings 4 0 fl_Pieces_34 (pc' := 8) rfl rfl rfl rfl ?_
  refine A_icmp_ge K d_Pieces_uniteRings 5 75 (pc' := 11) rfl rfl rfl (fun q => ?_) (fun q => ?_)
  · replace h := h.1 q
    exact hend 48 _ _ _ rfl h
  · replace h := h.2 q
    refine A_aload_n K d_Pieces_uniteRings 6 0 (pc' := 12) rfl rfl rfl rfl ?_
    refine A_get K d_Pieces_uniteRings 7 0 fl_Pieces_18 (pc' := 15) rfl rfl rfl rfl ?_
    refine A_iload_n K d_Pieces_uniteRings 8 1 (pc' := 16) rfl rfl rfl rfl ?_
    refine A_iald K d_Pieces_uniteRings 9 1 0 (pc' := 17) rfl rfl rfl rfl h.1 ?_
    replace h := h.2
    refine A_istore_n K d_Pieces_uniteRings 10 (pc' := 18) (lv' := [(2, .int (home_2 (ix i1_1))), (0, .ref a_t), (1, .int i1_1)]) rfl rfl rfl (by decide) rfl ?_
    refine A_aload_n K d_Pieces_uniteRings 11 1 (pc' := 19) rfl rfl rfl rfl ?_
    refine A_get K d_Pieces_uniteRings 12 0 fl_Pieces_18 (pc' := 22) rfl rfl rfl rfl ?_
    refine A_iload_n K d_Pieces_uniteRings 13 2 (pc' := 23) rfl rfl rfl rfl ?_
    refine A_iconst K d_Pieces_uniteRings 14 (pc' := 24) (v := 1) rfl rfl (by decide) ?_
    refine A_iadd K d_Pieces_uniteRings 15 (pc' := 25) rfl rfl ?_
    refine A_iald K d_Pieces_uniteRings 16 1 0 (pc' := 26) rfl rfl rfl rfl h.1 ?_
    replace h := h.2
    refine A_istore_n K d_Pieces_uniteRings 17 (pc' := 27) (lv' := [(3, .int (home_2 (ix (i1_1 + 1)))), (2, .int (home_2 (ix i1_1))), (0, .ref a_t), (1, .int i1_1)]) rfl rfl rfl (by decide) rfl ?_
    refine A_aload_n K d_Pieces_uniteRings 18 2 (pc' := 28) rfl rfl rfl rfl ?_
    refine A_get K d_Pieces_uniteRings 19 0 fl_Pieces_21 (pc' := 31) rfl rfl rfl rfl ?_
    refine A_iload_n K d_Pieces_uniteRings 20 1 (pc' := 32) rfl rfl rfl rfl ?_
    refine A_iald K d_Pieces_uniteRings 21 2 0 (pc' := 33) rfl rfl rfl rfl h.1 ?_
    replace h := h.2
    refine A_iconst K d_Pieces_uniteRings 22 (pc' := 34) (v := 1) rfl rfl (by decide) ?_
    refine A_icmp_ne K d_Pieces_uniteRings 23 69 (pc' := 37) rfl rfl rfl (fun q => ?_) (fun q => ?_)
    · replace h := h.1 q
      refine A_iinc K d_Pieces_uniteRings 46 3 (pc' := 72) (v := i1_1 + 2) (lv' := [(1, .int (i1_1 + 2)), (3, .int (home_2 (ix (i1_1 + 1)))), (2, .int (home_2 (ix i1_1))), (0, .ref a_t)]) rfl rfl rfl rfl (by decide) rfl ?_
      refine A_goto K d_Pieces_uniteRings 47 (pc' := 3) rfl rfl ?_
      refine A_lv [3, 0] rfl ?_
      exact ih_4 _ _ h
    · replace h := h.2 q
      refine A_aload_n K d_Pieces_uniteRings 24 2 (pc' := 38) rfl rfl rfl rfl ?_
      refine A_get K d_Pieces_uniteRings 25 0 fl_Pieces_21 (pc' := 41) rfl rfl rfl rfl ?_
      refine A_iload_n K d_Pieces_uniteRings 26 0 (pc' := 42) rfl rfl rfl rfl ?_
      refine A_iald K d_Pieces_uniteRings 27 2 0 (pc' := 43) rfl rfl rfl rfl h.1 ?_
      replace h := h.2
      refine A_topi (fun x_6 e_7 => ?_)
      replace h := h x_6 e_7
      refine A_iconst K d_Pieces_uniteRings 28 (pc' := 44) (v := 1) rfl rfl (by decide) ?_
      refine A_icmp_ne K d_Pieces_uniteRings 29 69 (pc' := 47) rfl rfl rfl (fun q => ?_) (fun q => ?_)
      · replace h := h.1 q
        refine A_iinc K d_Pieces_uniteRings 46 3 (pc' := 72) (v := i1_1 + 2) (lv' := [(1, .int (i1_1 + 2)), (3, .int (home_2 (ix (i1_1 + 1)))), (2, .int (home_2 (ix i1_1))), (0, .ref a_t)]) rfl rfl rfl rfl (by decide) rfl ?_
        refine A_goto K d_Pieces_uniteRings 47 (pc' := 3) rfl rfl ?_
        refine A_lv [3, 0] rfl ?_
        exact ih_4 _ _ h
      · replace h := h.2 q
        refine A_aload_n K d_Pieces_uniteRings 30 2 (pc' := 48) rfl rfl rfl rfl ?_
        refine A_get K d_Pieces_uniteRings 31 0 fl_Pieces_18 (pc' := 51) rfl rfl rfl rfl ?_
        refine A_iload_n K d_Pieces_uniteRings 32 3 (pc' := 52) rfl rfl rfl rfl ?_
        refine A_iconst K d_Pieces_uniteRings 33 (pc' := 53) (v := (-1)) rfl rfl (by decide) ?_
        refine A_iastN K hBA d_Pieces_uniteRings 34 1 0 (pc' := 54) (ws' := fun home_8 => w_Pieces_uniteRings cI cJ cZ a_t a_firstEnd a_secondEnd a_home a_kindOf a_startAt a_links home_8 kindOf slots count) rfl rfl rfl rfl h.1 (fun _ => rfl) (fun home_8 e_9 => ?_)
        replace h := h.2 home_8 e_9
        refine A_aload_n K d_Pieces_uniteRings 35 2 (pc' := 55) rfl rfl rfl rfl ?_
        refine A_get K d_Pieces_uniteRings 36 0 fl_Pieces_18 (pc' := 58) rfl rfl rfl rfl ?_
        refine A_iload_n K d_Pieces_uniteRings 37 3 (pc' := 59) rfl rfl rfl rfl ?_
        refine A_iconst K d_Pieces_uniteRings 38 (pc' := 60) (v := 1) rfl rfl (by decide) ?_
        refine A_iadd K d_Pieces_uniteRings 39 (pc' := 61) rfl rfl ?_
        refine A_iconst K d_Pieces_uniteRings 40 (pc' := 62) (v := (-1)) rfl rfl (by decide) ?_
        refine A_iastN K hBA d_Pieces_uniteRings 41 1 0 (pc' := 63) (ws' := fun home_10 => w_Pieces_uniteRings cI cJ cZ a_t a_firstEnd a_secondEnd a_home a_kindOf a_startAt a_links home_10 kindOf slots count) rfl rfl rfl rfl h.1 (fun _ => rfl) (fun home_10 e_11 => ?_)
        replace h := h.2 home_10 e_11
        refine A_aload_n K d_Pieces_uniteRings 42 2 (pc' := 64) rfl rfl rfl rfl ?_
        refine A_iload_n K d_Pieces_uniteRings 43 0 (pc' := 65) rfl rfl rfl rfl ?_
        refine A_iload_n K d_Pieces_uniteRings 44 1 (pc' := 66) rfl rfl rfl rfl ?_
        refine C_Vv1 K hBA d_Pieces_uniteRings 45 [0, 1] [some 0, some 1, none] (As := [.int (home_2 (ix (i1_1 + 1))), .int (home_2 (ix i1_1))]) (rest := []) (pc' := 69) (wl := fun home_12 => w_Pieces_moveAll cI cJ cZ a_t a_firstEnd a_secondEnd a_home a_kindOf a_startAt a_links home_12 slots count) (ws' := fun home_12 => w_Pieces_uniteRings cI cJ cZ a_t a_firstEnd a_secondEnd a_home a_kindOf a_startAt a_links home_12 kindOf slots count) v_Pieces_104 ⟨rfl, rfl, Nat.le_trans (Nat.le_of_ble_eq_true rfl) hR1, Nat.le_trans (Nat.le_of_ble_eq_true rfl) hR2⟩ (fun sz => met_Pieces_moveAll l D cI cJ cZ a_t a_firstEnd a_secondEnd a_home a_kindOf a_startAt a_links home_10 slots count (home_2 (ix (i1_1 + 1))) (home_2 (ix i1_1)) _ sz) h rfl rfl rfl rfl rfl (fun _ => rfl) rfl (by decide) (Nat.le_of_ble_eq_true rfl) ⟨Nat.zero_le _, Nat.zero_le _⟩ (q0 := 0) rfl rfl (fun _ => rfl) (fun home_12 h => ?_)
        refine A_iinc K d_Pieces_uniteRings 46 3 (pc' := 72) (v := i1_1 + 2) (lv' := [(1, .int (i1_1 + 2)), (3, .int (home_2 (ix (i1_1 + 1)))), (2, .int (home_2 (ix i1_1))), (0, .ref a_t)]) rfl rfl rfl rfl (by decide) rfl ?_
        refine A_goto K d_Pieces_uniteRings 47 (pc' := 3) rfl rfl ?_
        refine A_lv [3, 0] rfl ?_
        exact ih_4 _ _ h
theorem met_Pieces_uniteRings (l : Launch) (D : va_G) (cI cJ cZ : ClassId) (a_t a_firstEnd a_secondEnd a_home a_kindOf a_startAt a_links : Nat) (home : Nat → Int32) (kindOf : Nat → Int32) (slots : Int32) (count : Int32)  (post : (Nat → Int32) → Prop) (sz : Nat) : Met l y_Pieces_uniteRings (Cond.code y_Pieces_uniteRings c_Pieces_uniteRings 4 (Option.none : Option Jvm.ClassFile.FieldType) :: GW) { frames := 1, cells := 0, slots := 0, locals := 23 } (va_Pc [.ref a_t] (fun U => sk_P D (tyl cI cJ cZ) (w_Pieces_uniteRings cI cJ cZ a_t a_firstEnd a_secondEnd a_home a_kindOf a_startAt a_links home kindOf slots count) sz U ∧ wp_Pieces_uniteRings home kindOf slots post)) (va_Qv (fun (u : (Nat → Int32)) => post  u) (fun u t => sk_B D (tyl cI cJ cZ) (w_Pieces_uniteRings cI cJ cZ a_t a_firstEnd a_secondEnd a_home a_kindOf a_startAt a_links u kindOf slots count) (va_A (w_Pieces_uniteRings cI cJ cZ a_t a_firstEnd a_secondEnd a_home a_kindOf a_startAt a_links home kindOf slots count) sz) t) (va_A (w_Pieces_uniteRings cI cJ cZ a_t a_firstEnd a_secondEnd a_home a_kindOf a_startAt a_links home kindOf slots count) sz)) 0 0 (va_A (w_Pieces_uniteRings cI cJ cZ a_t a_firstEnd a_secondEnd a_home a_kindOf a_startAt a_links home kindOf slots count) sz) :=
  sk_intro (by decide) (Nat.le_of_ble_eq_true rfl) (fun p e s m below meth c K hr _ h => bd_Pieces_uniteRings K (Nat.le_refl _) (Nat.le_refl _) (fun _ z => z) (fun ti pc y0 lv hd hp => A_vret K d_Pieces_uniteRings ti hr (post := (fun (u : (Nat → Int32)) => post  u)) (wl := fun (u : (Nat → Int32)) => w_Pieces_uniteRings cI cJ cZ a_t a_firstEnd a_secondEnd a_home a_kindOf a_startAt a_links u kindOf slots count) y0 hd hp) h)
