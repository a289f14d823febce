abbrev c_Nodes_takeNode : ByteArray := prog_3_method_3_code
abbrev y_Nodes_takeNode : MethodName := { cls := "SkeletonTree$Nodes", name := "takeNode", desc := "(LSkeletonTree$Pieces;LSkeletonTree$Order;I)V" }
abbrev c_Nodes_take : ByteArray := prog_3_method_2_code
abbrev y_Nodes_take : MethodName := { cls := "SkeletonTree$Nodes", name := "take", desc := "(LSkeletonTree$Pieces;LSkeletonTree$Order;)V" }
abbrev c_Nodes_findNeighbour : ByteArray := prog_3_method_5_code
abbrev y_Nodes_findNeighbour : MethodName := { cls := "SkeletonTree$Nodes", name := "findNeighbour", desc := "(II)I" }
abbrev c_Nodes_nameNode : ByteArray := prog_3_method_6_code
abbrev y_Nodes_nameNode : MethodName := { cls := "SkeletonTree$Nodes", name := "nameNode", desc := "(I)I" }
abbrev c_Nodes_findItem : ByteArray := prog_3_method_4_code
abbrev y_Nodes_findItem : MethodName := { cls := "SkeletonTree$Nodes", name := "findItem", desc := "(II)I" }
abbrev c_Nodes_tieThreefold : ByteArray := prog_3_method_7_code
abbrev y_Nodes_tieThreefold : MethodName := { cls := "SkeletonTree$Nodes", name := "tieThreefold", desc := "(II)Z" }
theorem g_145 : (Jvm.Cond.fieldLink "SkeletonTree$Nodes" (56 : Nat) "SkeletonTree$Order" "number" "[I") ∈ GW := gw_of 145 (by decide +kernel) (by decide +kernel)
theorem g_141 : (Jvm.Cond.fieldLink "SkeletonTree$Nodes" (69 : Nat) "SkeletonTree$Order" "above" "[I") ∈ GW := gw_of 141 (by decide +kernel) (by decide +kernel)
theorem g_143 : (Jvm.Cond.fieldLink "SkeletonTree$Nodes" (70 : Nat) "SkeletonTree$Order" "sideUp" "[I") ∈ GW := gw_of 143 (by decide +kernel) (by decide +kernel)
theorem g_171 : (Jvm.Cond.fieldLink "SkeletonTree$Nodes" (9 : Nat) "SkeletonTree$Nodes" "kindOf" "[I") ∈ GW := gw_of 171 (by decide +kernel) (by decide +kernel)
theorem g_108 : (Jvm.Cond.fieldLink "SkeletonTree$Nodes" (73 : Nat) "SkeletonTree$Pieces" "kindOf" "[I") ∈ GW := gw_of 108 (by decide +kernel) (by decide +kernel)
theorem g_173 : (Jvm.Cond.fieldLink "SkeletonTree$Nodes" (15 : Nat) "SkeletonTree$Nodes" "sizeOf" "[I") ∈ GW := gw_of 173 (by decide +kernel) (by decide +kernel)
theorem g_181 : (Jvm.Cond.fieldLink "SkeletonTree$Nodes" (27 : Nat) "SkeletonTree$Nodes" "inside" "[J") ∈ GW := gw_of 181 (by decide +kernel) (by decide +kernel)
theorem g_175 : (Jvm.Cond.fieldLink "SkeletonTree$Nodes" (18 : Nat) "SkeletonTree$Nodes" "above" "[I") ∈ GW := gw_of 175 (by decide +kernel) (by decide +kernel)
theorem g_177 : (Jvm.Cond.fieldLink "SkeletonTree$Nodes" (21 : Nat) "SkeletonTree$Nodes" "lesser" "[I") ∈ GW := gw_of 177 (by decide +kernel) (by decide +kernel)
theorem g_101 : (Jvm.Cond.fieldLink "SkeletonTree$Nodes" (59 : Nat) "SkeletonTree$Pieces" "firstEnd" "[I") ∈ GW := gw_of 101 (by decide +kernel) (by decide +kernel)
theorem g_103 : (Jvm.Cond.fieldLink "SkeletonTree$Nodes" (66 : Nat) "SkeletonTree$Pieces" "secondEnd" "[I") ∈ GW := gw_of 103 (by decide +kernel) (by decide +kernel)
theorem g_374 : (Jvm.Cond.methodLink "SkeletonTree$Nodes" (74 : Nat) ({ cls := "java/lang/Math", name := "min", desc := "(II)I" } : Jvm.MethodName)) ∈ GW := gw_of 374 (by decide +kernel) (by decide +kernel)
theorem g_179 : (Jvm.Cond.fieldLink "SkeletonTree$Nodes" (24 : Nat) "SkeletonTree$Nodes" "greater" "[I") ∈ GW := gw_of 179 (by decide +kernel) (by decide +kernel)
theorem g_375 : (Jvm.Cond.methodLink "SkeletonTree$Nodes" (80 : Nat) ({ cls := "java/lang/Math", name := "max", desc := "(II)I" } : Jvm.MethodName)) ∈ GW := gw_of 375 (by decide +kernel) (by decide +kernel)
theorem g_376 : (Jvm.Cond.static ({ cls := "java/lang/Math", name := "max", desc := "(II)I" } : Jvm.MethodName)) ∈ GW := gw_of 376 (by decide +kernel) (by decide +kernel)
theorem g_377 : (Jvm.Cond.code ({ cls := "java/lang/Math", name := "max", desc := "(II)I" } : Jvm.MethodName) prog_13_method_65_code (2 : Nat) (Option.some Jvm.ClassFile.FieldType.int)) ∈ GW := gw_of 377 (by decide +kernel) (by decide +kernel)
theorem g_149 : (Jvm.Cond.fieldLink "SkeletonTree$Nodes" (38 : Nat) "SkeletonTree$Order" "count" "I") ∈ GW := gw_of 149 (by decide +kernel) (by decide +kernel)
theorem g_185 : (Jvm.Cond.fieldLink "SkeletonTree$Nodes" (34 : Nat) "SkeletonTree$Nodes" "count" "I") ∈ GW := gw_of 185 (by decide +kernel) (by decide +kernel)
theorem g_139 : (Jvm.Cond.fieldLink "SkeletonTree$Nodes" (41 : Nat) "SkeletonTree$Order" "row" "[I") ∈ GW := gw_of 139 (by decide +kernel) (by decide +kernel)
theorem g_373 : (Jvm.Cond.code ({ cls := "SkeletonTree$Nodes", name := "takeNode", desc := "(LSkeletonTree$Pieces;LSkeletonTree$Order;I)V" } : Jvm.MethodName) prog_3_method_3_code (7 : Nat) (Option.none : Option Jvm.ClassFile.FieldType)) ∈ GW := gw_of 373 (by decide +kernel) (by decide +kernel)
theorem g_370 : (Jvm.Cond.methodLink "SkeletonTree$Nodes" (44 : Nat) ({ cls := "SkeletonTree$Nodes", name := "takeNode", desc := "(LSkeletonTree$Pieces;LSkeletonTree$Order;I)V" } : Jvm.MethodName)) ∈ GW := gw_of 370 (by decide +kernel) (by decide +kernel)
theorem g_51 : (Jvm.Cond.initialized "SkeletonTree$Nodes") ∈ GW := gw_of 51 (by decide +kernel) (by decide +kernel)
theorem g_372 : (Jvm.Cond.instanceMethod ({ cls := "SkeletonTree$Nodes", name := "takeNode", desc := "(LSkeletonTree$Pieces;LSkeletonTree$Order;I)V" } : Jvm.MethodName)) ∈ GW := gw_of 372 (by decide +kernel) (by decide +kernel)
theorem g_12 : (Jvm.Cond.selects "SkeletonTree$Nodes" ({ cls := "SkeletonTree$Nodes", name := "takeNode", desc := "(LSkeletonTree$Pieces;LSkeletonTree$Order;I)V" } : Jvm.MethodName) ({ cls := "SkeletonTree$Nodes", name := "takeNode", desc := "(LSkeletonTree$Pieces;LSkeletonTree$Order;I)V" } : Jvm.MethodName)) ∈ GW := gw_of 12 (by decide +kernel) (by decide +kernel)
theorem g_112 : (Jvm.Cond.fieldLink "SkeletonTree$Nodes" (48 : Nat) "SkeletonTree$Pieces" "slots" "I") ∈ GW := gw_of 112 (by decide +kernel) (by decide +kernel)
theorem g_105 : (Jvm.Cond.fieldLink "SkeletonTree$Nodes" (53 : Nat) "SkeletonTree$Pieces" "home" "[I") ∈ GW := gw_of 105 (by decide +kernel) (by decide +kernel)
theorem g_378 : (Jvm.Cond.methodLinkNest "SkeletonTree$Nodes" (62 : Nat) ({ cls := "SkeletonTree", name := "only", desc := "(I)J" } : Jvm.MethodName) "SkeletonTree") ∈ NW := nw_of 378 (by decide +kernel) (by decide +kernel)
theorem g_183 : (Jvm.Cond.fieldLink "SkeletonTree$Nodes" (31 : Nat) "SkeletonTree$Nodes" "ofEdge" "[I") ∈ GW := gw_of 183 (by decide +kernel) (by decide +kernel)
theorem g_550 : (Jvm.Cond.code ({ cls := "SkeletonTree$Nodes", name := "findNeighbour", desc := "(II)I" } : Jvm.MethodName) prog_3_method_5_code (5 : Nat) (Option.some Jvm.ClassFile.FieldType.int)) ∈ GW := gw_of 550 (by decide +kernel) (by decide +kernel)
theorem g_547 : (Jvm.Cond.methodLink "SkeletonTree$Nodes" (83 : Nat) ({ cls := "SkeletonTree$Nodes", name := "findNeighbour", desc := "(II)I" } : Jvm.MethodName)) ∈ GW := gw_of 547 (by decide +kernel) (by decide +kernel)
theorem g_549 : (Jvm.Cond.instanceMethod ({ cls := "SkeletonTree$Nodes", name := "findNeighbour", desc := "(II)I" } : Jvm.MethodName)) ∈ GW := gw_of 549 (by decide +kernel) (by decide +kernel)
theorem g_17 : (Jvm.Cond.selects "SkeletonTree$Nodes" ({ cls := "SkeletonTree$Nodes", name := "findNeighbour", desc := "(II)I" } : Jvm.MethodName) ({ cls := "SkeletonTree$Nodes", name := "findNeighbour", desc := "(II)I" } : Jvm.MethodName)) ∈ GW := gw_of 17 (by decide +kernel) (by decide +kernel)
theorem g_553 : (Jvm.Cond.code ({ cls := "SkeletonTree$Nodes", name := "nameNode", desc := "(I)I" } : Jvm.MethodName) prog_3_method_6_code (1 : Nat) (Option.some Jvm.ClassFile.FieldType.int)) ∈ GW := gw_of 553 (by decide +kernel) (by decide +kernel)
theorem g_551 : (Jvm.Cond.methodLink "SkeletonTree$Nodes" (86 : Nat) ({ cls := "SkeletonTree$Nodes", name := "nameNode", desc := "(I)I" } : Jvm.MethodName)) ∈ GW := gw_of 551 (by decide +kernel) (by decide +kernel)
theorem g_552 : (Jvm.Cond.static ({ cls := "SkeletonTree$Nodes", name := "nameNode", desc := "(I)I" } : Jvm.MethodName)) ∈ GW := gw_of 552 (by decide +kernel) (by decide +kernel)
theorem g_607 : (Jvm.Cond.methodLinkNest "SkeletonTree$Nodes" (90 : Nat) ({ cls := "SkeletonTree", name := "holds", desc := "(JI)Z" } : Jvm.MethodName) "SkeletonTree") ∈ NW := nw_of 607 (by decide +kernel) (by decide +kernel)
theorem fl_Nodes_56 : sk_Fl "SkeletonTree$Nodes" 56 2 3 := ⟨_, _, _, rfl, in_Order, by decide, g_145⟩
theorem fl_Nodes_69 : sk_Fl "SkeletonTree$Nodes" 69 2 1 := ⟨_, _, _, rfl, in_Order, by decide, g_141⟩
theorem fl_Nodes_70 : sk_Fl "SkeletonTree$Nodes" 70 2 2 := ⟨_, _, _, rfl, in_Order, by decide, g_143⟩
theorem fl_Nodes_9 : sk_Fl "SkeletonTree$Nodes" 9 1 0 := ⟨_, _, _, rfl, in_Nodes, by decide, g_171⟩
theorem fl_Nodes_73 : sk_Fl "SkeletonTree$Nodes" 73 3 3 := ⟨_, _, _, rfl, in_Pieces, by decide, g_108⟩
theorem fl_Nodes_15 : sk_Fl "SkeletonTree$Nodes" 15 1 1 := ⟨_, _, _, rfl, in_Nodes, by decide, g_173⟩
theorem fl_Nodes_27 : sk_Fl "SkeletonTree$Nodes" 27 1 5 := ⟨_, _, _, rfl, in_Nodes, by decide, g_181⟩
theorem fl_Nodes_18 : sk_Fl "SkeletonTree$Nodes" 18 1 2 := ⟨_, _, _, rfl, in_Nodes, by decide, g_175⟩
theorem fl_Nodes_21 : sk_Fl "SkeletonTree$Nodes" 21 1 3 := ⟨_, _, _, rfl, in_Nodes, by decide, g_177⟩
theorem fl_Nodes_59 : sk_Fl "SkeletonTree$Nodes" 59 3 0 := ⟨_, _, _, rfl, in_Pieces, by decide, g_101⟩
theorem fl_Nodes_66 : sk_Fl "SkeletonTree$Nodes" 66 3 1 := ⟨_, _, _, rfl, in_Pieces, by decide, g_103⟩
theorem fl_Nodes_24 : sk_Fl "SkeletonTree$Nodes" 24 1 4 := ⟨_, _, _, rfl, in_Nodes, by decide, g_179⟩
theorem fl_Nodes_38 : sk_Fl "SkeletonTree$Nodes" 38 2 6 := ⟨_, _, _, rfl, in_Order, by decide, g_149⟩
theorem fp_Nodes_34 : sk_Fp "SkeletonTree$Nodes" 34 1 7 .int := ⟨_, _, _, t_Nodes, rfl, in_Nodes, by decide, g_185, ty_Nodes, nm_Nodes, rfl, by decide +kernel⟩
theorem fl_Nodes_34 : sk_Fl "SkeletonTree$Nodes" 34 1 7 := ⟨_, _, _, rfl, in_Nodes, by decide, g_185⟩
theorem fl_Nodes_41 : sk_Fl "SkeletonTree$Nodes" 41 2 0 := ⟨_, _, _, rfl, in_Order, by decide, g_139⟩
theorem fl_Nodes_48 : sk_Fl "SkeletonTree$Nodes" 48 3 6 := ⟨_, _, _, rfl, in_Pieces, by decide, g_112⟩
theorem fl_Nodes_53 : sk_Fl "SkeletonTree$Nodes" 53 3 2 := ⟨_, _, _, rfl, in_Pieces, by decide, g_105⟩
theorem fl_Nodes_31 : sk_Fl "SkeletonTree$Nodes" 31 1 6 := ⟨_, _, _, rfl, in_Nodes, by decide, g_183⟩
theorem v_Nodes_44 : sk_V "SkeletonTree$Nodes" 44 y_Nodes_takeNode c_Nodes_takeNode 7 (Option.none : Option Jvm.ClassFile.FieldType) 3 "SkeletonTree$Nodes" := ⟨g_373, g_370, g_372, g_12, g_51, by decide +kernel⟩
theorem v_Nodes_62 : sk_SN "SkeletonTree$Nodes" 62 y_Tree_only c_Tree_only 1 (Option.some Jvm.ClassFile.FieldType.long) 1 := ⟨"SkeletonTree", g_260, g_378, g_259, g_47, by decide +kernel⟩
theorem v_Nodes_83 : sk_V "SkeletonTree$Nodes" 83 y_Nodes_findNeighbour c_Nodes_findNeighbour 5 (Option.some Jvm.ClassFile.FieldType.int) 2 "SkeletonTree$Nodes" := ⟨g_550, g_547, g_549, g_17, g_51, by decide +kernel⟩
theorem v_Nodes_86 : sk_S "SkeletonTree$Nodes" 86 y_Nodes_nameNode c_Nodes_nameNode 1 (Option.some Jvm.ClassFile.FieldType.int) 1 := ⟨g_553, g_551, g_552, g_51, by decide +kernel⟩
theorem v_Nodes_90 : sk_SN "SkeletonTree$Nodes" 90 y_Tree_holds c_Tree_holds 3 (Option.some Jvm.ClassFile.FieldType.boolean) 2 := ⟨"SkeletonTree", g_307, g_607, g_306, g_47, by decide +kernel⟩
/-! SkeletonTree$Nodes.takeNode(LSkeletonTree$Pieces;LSkeletonTree$Order;I)V -/
def t_Nodes_takeNode : List (Nat × Instr × Nat) := [(0, .aload_n 2, 1), (1, .getfield 56, 3), (4, .iload_n 3, 1), (5, .iaload, 1), (6, .istore 4, 2), (8, .aload_n 2, 1), (9, .getfield 69, 3), (12, .iload_n 3, 1), (13, .iaload, 1), (14, .istore 5, 2), (16, .aload_n 2, 1), (17, .getfield 70, 3), (20, .iload_n 3, 1), (21, .iaload, 1), (22, .istore 6, 2), (24, .aload_n 0, 1), (25, .getfield 9, 3), (28, .iload 4, 2), (30, .aload_n 1, 1), (31, .getfield 73, 3), (34, .iload_n 3, 1), (35, .iaload, 1), (36, .iastore, 1), (37, .aload_n 0, 1), (38, .getfield 15, 3), (41, .iload 4, 2), (43, .iconst 0, 1), (44, .iastore, 1), (45, .aload_n 0, 1), (46, .getfield 27, 3), (49, .iload 4, 2), (51, .lconst 0, 1), (52, .lastore, 1), (53, .aload_n 0, 1), (54, .getfield 18, 3), (57, .iload 4, 2), (59, .iload 5, 2), (61, .iconst (-1), 1), (62, .if_icmp .ne 7, 3), (65, .iconst (-1), 1), (66, .goto 10, 3), (69, .aload_n 2, 1), (70, .getfield 56, 3), (73, .iload 5, 2), (75, .iaload, 1), (76, .iastore, 1), (77, .aload_n 0, 1), (78, .getfield 21, 3), (81, .iload 4, 2), (83, .iload 6, 2), (85, .iconst (-1), 1), (86, .if_icmp .ne 7, 3), (89, .iconst (-1), 1), (90, .goto 20, 3), (93, .aload_n 1, 1), (94, .getfield 59, 3), (97, .iload 6, 2), (99, .iaload, 1), (100, .aload_n 1, 1), (101, .getfield 66, 3), (104, .iload 6, 2), (106, .iaload, 1), (107, .invokestatic 74, 3), (110, .iastore, 1), (111, .aload_n 0, 1), (112, .getfield 24, 3), (115, .iload 4, 2), (117, .iload 6, 2), (119, .iconst (-1), 1), (120, .if_icmp .ne 7, 3), (123, .iconst (-1), 1), (124, .goto 20, 3), (127, .aload_n 1, 1), (128, .getfield 59, 3), (131, .iload 6, 2), (133, .iaload, 1), (134, .aload_n 1, 1), (135, .getfield 66, 3), (138, .iload 6, 2), (140, .iaload, 1), (141, .invokestatic 80, 3), (144, .iastore, 1), (145, .return_, 1)]
set_option maxRecDepth 100000 in
theorem d_Nodes_takeNode : sk_T c_Nodes_takeNode t_Nodes_takeNode := by unfold sk_T t_Nodes_takeNode; decide +kernel
def w_Nodes_takeNode (cI cJ cZ : ClassId) (a_t a_kindOf a_sizeOf a_above a_lesser a_greater a_inside a_ofEdge a_p1 a_p1_firstEnd a_p1_secondEnd a_p1_home a_p1_kindOf a_p1_startAt a_p1_links a_p2 a_p2_row a_p2_above a_p2_sideUp a_p2_number a_p2_least a_p2_weight : Nat) (kindOf : Nat → Int32) (sizeOf : Nat → Int32) (above : Nat → Int32) (lesser : Nat → Int32) (greater : Nat → Int32) (inside : Nat → Int64) (count : Int32) (p1_firstEnd : Nat → Int32) (p1_secondEnd : Nat → Int32) (p1_kindOf : Nat → Int32) (p1_slots : Int32) (p1_count : Int32) (p2_above : Nat → Int32) (p2_sideUp : Nat → Int32) (p2_number : Nat → Int32) (p2_count : Int32) : va_W := [(a_t, .inr (1, [.ref a_kindOf, .ref a_sizeOf, .ref a_above, .ref a_lesser, .ref a_greater, .ref a_inside, .ref a_ofEdge, .int count])), (a_kindOf, .inl (cI, 98, .inl kindOf)), (a_sizeOf, .inl (cI, 98, .inl sizeOf)), (a_above, .inl (cI, 98, .inl above)), (a_lesser, .inl (cI, 98, .inl lesser)), (a_greater, .inl (cI, 98, .inl greater)), (a_inside, .inl (cJ, 98, .inr (.inl inside))), (a_p1, .inr (3, [.ref a_p1_firstEnd, .ref a_p1_secondEnd, .ref a_p1_home, .ref a_p1_kindOf, .ref a_p1_startAt, .ref a_p1_links, .int p1_slots, .int p1_count])), (a_p1_firstEnd, .inl (cI, 294, .inl p1_firstEnd)), (a_p1_secondEnd, .inl (cI, 294, .inl p1_secondEnd)), (a_p1_kindOf, .inl (cI, 98, .inl p1_kindOf)), (a_p2, .inr (2, [.ref a_p2_row, .ref a_p2_above, .ref a_p2_sideUp, .ref a_p2_number, .ref a_p2_least, .ref a_p2_weight, .int p2_count])), (a_p2_above, .inl (cI, 98, .inl p2_above)), (a_p2_sideUp, .inl (cI, 98, .inl p2_sideUp)), (a_p2_number, .inl (cI, 98, .inl p2_number))]
def wp_Nodes_takeNode  (kindOf : Nat → Int32) (sizeOf : Nat → Int32) (above : Nat → Int32) (lesser : Nat → Int32) (greater : Nat → Int32) (inside : Nat → Int64) (p1_firstEnd : Nat → Int32) (p1_secondEnd : Nat → Int32) (p1_kindOf : Nat → Int32) (p2_above : Nat → Int32) (p2_sideUp : Nat → Int32) (p2_number : Nat → Int32) (x3 : Int32) (post : (Nat → Int32) → (Nat → Int32) → (Nat → Int32) → (Nat → Int32) → (Nat → Int32) → (Nat → Int64) → Prop) : Prop :=
  vp_in x3 98 ∧ vp_in x3 98 ∧ vp_in x3 98 ∧ vp_in x3 98 ∧ vp_in (p2_number (ix x3)) 98 ∧ ∀ kindOf_1 : Nat → Int32, kindOf_1 = upd kindOf (ix (p2_number (ix x3))) (p1_kindOf (ix x3)) → vp_in (p2_number (ix x3)) 98 ∧ ∀ sizeOf_3 : Nat → Int32, sizeOf_3 = upd sizeOf (ix (p2_number (ix x3))) 0 → vp_in (p2_number (ix x3)) 98 ∧ ∀ inside_5 : Nat → Int64, inside_5 = vp_updL inside (ix (p2_number (ix x3))) 0 → jn1 (fun (z_7 : Int32) => vp_in (p2_number (ix x3)) 98 ∧ ∀ above_12 : Nat → Int32, above_12 = upd above (ix (p2_number (ix x3))) z_7 → jn1 (fun (z_14 : Int32) => vp_in (p2_number (ix x3)) 98 ∧ ∀ lesser_23 : Nat → Int32, lesser_23 = upd lesser (ix (p2_number (ix x3))) z_14 → (¬ (p2_sideUp (ix x3)) = (-1) → vp_in (p2_sideUp (ix x3)) 294 ∧ ∀ x_25 : Int32, x_25 = p1_firstEnd (ix (p2_sideUp (ix x3))) → vp_in (p2_sideUp (ix x3)) 294 ∧ ∀ x_27 : Int32, x_27 = p1_secondEnd (ix (p2_sideUp (ix x3))) → ∀ x_29 : Int32, x_29 = (if x_25 < x_27 then x_27 else x_25) → vp_in (p2_number (ix x3)) 98 ∧ ∀ greater_31 : Nat → Int32, greater_31 = upd greater (ix (p2_number (ix x3))) x_29 → post kindOf_1 sizeOf_3 above_12 lesser_23 greater_31 inside_5) ∧ ((p2_sideUp (ix x3)) = (-1) → vp_in (p2_number (ix x3)) 98 ∧ ∀ greater_33 : Nat → Int32, greater_33 = upd greater (ix (p2_number (ix x3))) (-1) → post kindOf_1 sizeOf_3 above_12 lesser_23 greater_33 inside_5)) (fun (J_15 : Int32 → Prop) => (¬ (p2_sideUp (ix x3)) = (-1) → vp_in (p2_sideUp (ix x3)) 294 ∧ ∀ x_17 : Int32, x_17 = p1_firstEnd (ix (p2_sideUp (ix x3))) → vp_in (p2_sideUp (ix x3)) 294 ∧ ∀ x_19 : Int32, x_19 = p1_secondEnd (ix (p2_sideUp (ix x3))) → ∀ x_21 : Int32, x_21 = (if x_19 < x_17 then x_19 else x_17) → J_15 x_21) ∧ ((p2_sideUp (ix x3)) = (-1) → J_15 (-1)))) (fun (J_8 : Int32 → Prop) => (¬ (p2_above (ix x3)) = (-1) → vp_in (p2_above (ix x3)) 98 ∧ ∀ x_10 : Int32, x_10 = p2_number (ix (p2_above (ix x3))) → J_8 x_10) ∧ ((p2_above (ix x3)) = (-1) → J_8 (-1)))
set_option maxHeartbeats 4000000 in
set_option maxRecDepth 100000 in
theorem bd_Nodes_takeNode {p : Program} {l : Launch} {e : Env} {R : Room} {s : State} {m : MethodId} {args : Array Value} {below : List Frame} {meth : Method} {c : Code} {D : va_G} {A B : Nat → Prop} {Q : State → Prop} {cI cJ cZ : ClassId} {a_t a_kindOf a_sizeOf a_above a_lesser a_greater a_inside a_ofEdge a_p1 a_p1_firstEnd a_p1_secondEnd a_p1_home a_p1_kindOf a_p1_startAt a_p1_links a_p2 a_p2_row a_p2_above a_p2_sideUp a_p2_number a_p2_least a_p2_weight : Nat} {kindOf : Nat → Int32} {sizeOf : Nat → Int32} {above : Nat → Int32} {lesser : Nat → Int32} {greater : Nat → Int32} {inside : Nat → Int64} {count : Int32} {p1_firstEnd : Nat → Int32} {p1_secondEnd : Nat → Int32} {p1_kindOf : Nat → Int32} {p1_slots : Int32} {p1_count : Int32} {p2_above : Nat → Int32} {p2_sideUp : Nat → Int32} {p2_number : Nat → Int32} {p2_count : Int32} {x3 : Int32} (K : sk_C p s m args meth c c_Nodes_takeNode 7 "SkeletonTree$Nodes" D (tyl cI cJ cZ)) (hR1 : 1 ≤ R.frames) (hR2 : 15 ≤ R.locals) (hBA : ∀ q : Nat, B q → A q) {post : (Nat → Int32) → (Nat → Int32) → (Nat → Int32) → (Nat → Int32) → (Nat → Int32) → (Nat → Int64) → Prop} (hend : ∀ (ti pc : Nat)  (y0 : Nat → Int32) (y1 : Nat → Int32) (y2 : Nat → Int32) (y3 : Nat → Int32) (y4 : Nat → Int32) (y5 : Nat → Int64) (lv : List (Nat × Value)), t_Nodes_takeNode[ti]? = some (pc, .return_, 1) → post  y0 y1 y2 y3 y4 y5 → AW p l e R s m args below meth c D A B 7 Q 0 0 (w_Nodes_takeNode cI cJ cZ a_t a_kindOf a_sizeOf a_above a_lesser a_greater a_inside a_ofEdge a_p1 a_p1_firstEnd a_p1_secondEnd a_p1_home a_p1_kindOf a_p1_startAt a_p1_links a_p2 a_p2_row a_p2_above a_p2_sideUp a_p2_number a_p2_least a_p2_weight y0 y1 y2 y3 y4 y5 count p1_firstEnd p1_secondEnd p1_kindOf p1_slots p1_count p2_above p2_sideUp p2_number p2_count) lv pc []) (h : wp_Nodes_takeNode kindOf sizeOf above lesser greater inside p1_firstEnd p1_secondEnd p1_kindOf p2_above p2_sideUp p2_number x3 post) : AW p l e R s m args below meth c D A B 7 Q 0 0 (w_Nodes_takeNode cI cJ cZ a_t a_kindOf a_sizeOf a_above a_lesser a_greater a_inside a_ofEdge a_p1 a_p1_firstEnd a_p1_secondEnd a_p1_home a_p1_kindOf a_p1_startAt a_p1_links a_p2 a_p2_row a_p2_above a_p2_sideUp a_p2_number a_p2_least a_p2_weight kindOf sizeOf above lesser greater inside count p1_firstEnd p1_secondEnd p1_kindOf p1_slots p1_count p2_above p2_sideUp p2_number p2_count) [(0, .ref a_t), (1, .ref a_p1), (2, .ref a_p2), (3, .int x3)] 0 [] := by
  unfold wp_Nodes_takeNode at h
  refine A_aload_n K d_Nodes_takeNode 0 2 (pc' := 1) rfl rfl rfl rfl ?_
  refine A_get K d_Nodes_takeNode 1 11 fl_Nodes_56 (pc' := 4) rfl rfl rfl rfl ?_
  refine A_iload_n K d_Nodes_takeNode 2 3 (pc' := 5) rfl rfl rfl rfl ?_
  refine A_iald K d_Nodes_takeNode 3 14 0 (pc' := 6) rfl rfl rfl rfl h.1 ?_
  replace h := h.2
  refine A_istore K d_Nodes_takeNode 4 (pc' := 8) (lv' := [(4, .int (p2_number (ix x3))), (0, .ref a_t), (1, .ref a_p1), (2, .ref a_p2), (3, .int x3)]) rfl rfl (by decide) rfl ?_
  refine A_aload_n K d_Nodes_takeNode 5 3 (pc' := 9) rfl rfl rfl rfl ?_
  refine A_get K d_Nodes_takeNode 6 11 fl_Nodes_69 (pc' := 12) rfl rfl rfl rfl ?_
  refine A_iload_n K d_Nodes_takeNode 7 4 (pc' := 13) rfl rfl rfl rfl ?_
  refine A_iald K d_Nodes_takeNode 8 12 0 (pc' := 14) rfl rfl rfl rfl h.1 ?_
  replace h := h.2
  refine A_istore K d_Nodes_takeNode 9 (pc' := 16) (lv' := [(5, .int (p2_above (ix x3))), (4, .int (p2_number (ix x3))), (0, .ref a_t), (1, .ref a_p1), (2, .ref a_p2), (3, .int x3)]) rfl rfl (by decide) rfl ?_
  refine A_aload_n K d_Nodes_takeNode 10 4 (pc' := 17) rfl rfl rfl rfl ?_
  refine A_get K d_Nodes_takeNode 11 11 fl_Nodes_70 (pc' := 20) rfl rfl rfl rfl ?_
  refine A_iload_n K d_Nodes_takeNode 12 5 (pc' := 21) rfl rfl rfl rfl ?_
  refine A_iald K d_Nodes_takeNode 13 13 0 (pc' := 22) rfl rfl rfl rfl h.1 ?_
  replace h := h.2
  refine A_istore K d_Nodes_takeNode 14 (pc' := 24) (lv' := [(6, .int (p2_sideUp (ix x3))), (5, .int (p2_above (ix x3))), (4, .int (p2_number (ix x3))), (0, .ref a_t), (1, .ref a_p1), (2, .ref a_p2), (3, .int x3)]) rfl rfl (by decide) rfl ?_
  refine A_aload_n K d_Nodes_takeNode 15 3 (pc' := 25) rfl rfl rfl rfl ?_
  refine A_get K d_Nodes_takeNode 16 0 fl_Nodes_9 (pc' := 28) rfl rfl rfl rfl ?_
  refine A_iload K d_Nodes_takeNode 17 2 (pc' := 30) rfl rfl rfl ?_
  refine A_aload_n K d_Nodes_takeNode 18 4 (pc' := 31) rfl rfl rfl rfl ?_
  refine A_get K d_Nodes_takeNode 19 7 fl_Nodes_73 (pc' := 34) rfl rfl rfl rfl ?_
  refine A_iload_n K d_Nodes_takeNode 20 6 (pc' := 35) rfl rfl rfl rfl ?_
  refine A_iald K d_Nodes_takeNode 21 10 0 (pc' := 36) rfl rfl rfl rfl h.1 ?_
  replace h := h.2
  refine A_iastN K hBA d_Nodes_takeNode 22 1 0 (pc' := 37) (ws' := fun kindOf_1 => w_Nodes_takeNode cI cJ cZ a_t a_kindOf a_sizeOf a_above a_lesser a_greater a_inside a_ofEdge a_p1 a_p1_firstEnd a_p1_secondEnd a_p1_home a_p1_kindOf a_p1_startAt a_p1_links a_p2 a_p2_row a_p2_above a_p2_sideUp a_p2_number a_p2_least a_p2_weight kindOf_1 sizeOf above lesser greater inside count p1_firstEnd p1_secondEnd p1_kindOf p1_slots p1_count p2_above p2_sideUp p2_number p2_count) rfl rfl rfl rfl h.1 (fun _ => rfl) (fun kindOf_1 e_2 => ?_)
  replace h := h.2 kindOf_1 e_2
  refine A_aload_n K d_Nodes_takeNode 23 3 (pc' := 38) rfl rfl rfl rfl ?_
  refine A_get K d_Nodes_takeNode 24 0 fl_Nodes_15 (pc' := 41) rfl rfl rfl rfl ?_
  refine A_iload K d_Nodes_takeNode 25 2 (pc' := 43) rfl rfl rfl ?_
  refine A_iconst K d_Nodes_takeNode 26 (pc' := 44) (v := 0) rfl rfl (by decide) ?_
  refine A_iastN K hBA d_Nodes_takeNode 27 2 0 (pc' := 45) (ws' := fun sizeOf_3 => w_Nodes_takeNode cI cJ cZ a_t a_kindOf a_sizeOf a_above a_lesser a_greater a_inside a_ofEdge a_p1 a_p1_firstEnd a_p1_secondEnd a_p1_home a_p1_kindOf a_p1_startAt a_p1_links a_p2 a_p2_row a_p2_above a_p2_sideUp a_p2_number a_p2_least a_p2_weight kindOf_1 sizeOf_3 above lesser greater inside count p1_firstEnd p1_secondEnd p1_kindOf p1_slots p1_count p2_above p2_sideUp p2_number p2_count) rfl rfl rfl rfl h.1 (fun _ => rfl) (fun sizeOf_3 e_4 => ?_)
  replace h := h.2 sizeOf_3 e_4
  refine A_aload_n K d_Nodes_takeNode 28 3 (pc' := 46) rfl rfl rfl rfl ?_
  refine A_get K d_Nodes_takeNode 29 0 fl_Nodes_27 (pc' := 49) rfl rfl rfl rfl ?_
  refine A_iload K d_Nodes_takeNode 30 2 (pc' := 51) rfl rfl rfl ?_
  refine A_lconst K d_Nodes_takeNode 31 (pc' := 52) (v := 0) rfl rfl (by decide) ?_
  refine A_lastN K hBA d_Nodes_takeNode 32 6 1 (pc' := 53) (ws' := fun inside_5 => w_Nodes_takeNode cI cJ cZ a_t a_kindOf a_sizeOf a_above a_lesser a_greater a_inside a_ofEdge a_p1 a_p1_firstEnd a_p1_secondEnd a_p1_home a_p1_kindOf a_p1_startAt a_p1_links a_p2 a_p2_row a_p2_above a_p2_sideUp a_p2_number a_p2_least a_p2_weight kindOf_1 sizeOf_3 above lesser greater inside_5 count p1_firstEnd p1_secondEnd p1_kindOf p1_slots p1_count p2_above p2_sideUp p2_number p2_count) rfl rfl rfl rfl h.1 (fun _ => rfl) (fun inside_5 e_6 => ?_)
  replace h := h.2 inside_5 e_6
  refine A_aload_n K d_Nodes_takeNode 33 3 (pc' := 54) rfl rfl rfl rfl ?_
  refine A_get K d_Nodes_takeNode 34 0 fl_Nodes_18 (pc' := 57) rfl rfl rfl rfl ?_
  refine A_iload K d_Nodes_takeNode 35 2 (pc' := 59) rfl rfl rfl ?_
  refine A_iload K d_Nodes_takeNode 36 1 (pc' := 61) rfl rfl rfl ?_
  refine A_iconst K d_Nodes_takeNode 37 (pc' := 62) (v := (-1)) rfl rfl (by decide) ?_
  refine jn1_use (fun (z_7 : Int32) => AW p l e R s m args below meth c D A B 7 Q 0 0 (w_Nodes_takeNode cI cJ cZ a_t a_kindOf a_sizeOf a_above a_lesser a_greater a_inside a_ofEdge a_p1 a_p1_firstEnd a_p1_secondEnd a_p1_home a_p1_kindOf a_p1_startAt a_p1_links a_p2 a_p2_row a_p2_above a_p2_sideUp a_p2_number a_p2_least a_p2_weight kindOf_1 sizeOf_3 above lesser greater inside_5 count p1_firstEnd p1_secondEnd p1_kindOf p1_slots p1_count p2_above p2_sideUp p2_number p2_count) [(0, .ref a_t), (1, .ref a_p1), (4, .int (p2_number (ix x3))), (6, .int (p2_sideUp (ix x3)))] 76 [.int z_7, .int (p2_number (ix x3)), .ref a_above]) h ?_ ?_
  · intro z_7 h
    refine A_iastN K hBA d_Nodes_takeNode 45 3 0 (pc' := 77) (ws' := fun above_12 => w_Nodes_takeNode cI cJ cZ a_t a_kindOf a_sizeOf a_above a_lesser a_greater a_inside a_ofEdge a_p1 a_p1_firstEnd a_p1_secondEnd a_p1_home a_p1_kindOf a_p1_startAt a_p1_links a_p2 a_p2_row a_p2_above a_p2_sideUp a_p2_number a_p2_least a_p2_weight kindOf_1 sizeOf_3 above_12 lesser greater inside_5 count p1_firstEnd p1_secondEnd p1_kindOf p1_slots p1_count p2_above p2_sideUp p2_number p2_count) rfl rfl rfl rfl h.1 (fun _ => rfl) (fun above_12 e_13 => ?_)
    replace h := h.2 above_12 e_13
    refine A_aload_n K d_Nodes_takeNode 46 0 (pc' := 78) rfl rfl rfl rfl ?_
    refine A_get K d_Nodes_takeNode 47 0 fl_Nodes_21 (pc' := 81) rfl rfl rfl rfl ?_
    refine A_iload K d_Nodes_takeNode 48 2 (pc' := 83) rfl rfl rfl ?_
    refine A_iload K d_Nodes_takeNode 49 3 (pc' := 85) rfl rfl rfl ?_
    refine A_iconst K d_Nodes_takeNode 50 (pc' := 86) (v := (-1)) rfl rfl (by decide) ?_
    refine jn1_use (fun (z_14 : Int32) => AW p l e R s m args below meth c D A B 7 Q 0 0 (w_Nodes_takeNode cI cJ cZ a_t a_kindOf a_sizeOf a_above a_lesser a_greater a_inside a_ofEdge a_p1 a_p1_firstEnd a_p1_secondEnd a_p1_home a_p1_kindOf a_p1_startAt a_p1_links a_p2 a_p2_row a_p2_above a_p2_sideUp a_p2_number a_p2_least a_p2_weight kindOf_1 sizeOf_3 above_12 lesser greater inside_5 count p1_firstEnd p1_secondEnd p1_kindOf p1_slots p1_count p2_above p2_sideUp p2_number p2_count) [(0, .ref a_t), (1, .ref a_p1), (4, .int (p2_number (ix x3))), (6, .int (p2_sideUp (ix x3)))] 110 [.int z_14, .int (p2_number (ix x3)), .ref a_lesser]) h ?_ ?_
    · intro z_14 h
      refine A_iastN K hBA d_Nodes_takeNode 63 4 0 (pc' := 111) (ws' := fun lesser_23 => w_Nodes_takeNode cI cJ cZ a_t a_kindOf a_sizeOf a_above a_lesser a_greater a_inside a_ofEdge a_p1 a_p1_firstEnd a_p1_secondEnd a_p1_home a_p1_kindOf a_p1_startAt a_p1_links a_p2 a_p2_row a_p2_above a_p2_sideUp a_p2_number a_p2_least a_p2_weight kindOf_1 sizeOf_3 above_12 lesser_23 greater inside_5 count p1_firstEnd p1_secondEnd p1_kindOf p1_slots p1_count p2_above p2_sideUp p2_number p2_count) rfl rfl rfl rfl h.1 (fun _ => rfl) (fun lesser_23 e_24 => ?_)
      replace h := h.2 lesser_23 e_24
      refine A_aload_n K d_Nodes_takeNode 64 0 (pc' := 112) rfl rfl rfl rfl ?_
      refine A_get K d_Nodes_takeNode 65 0 fl_Nodes_24 (pc' := 115) rfl rfl rfl rfl ?_
      refine A_iload K d_Nodes_takeNode 66 2 (pc' := 117) rfl rfl rfl ?_
      refine A_iload K d_Nodes_takeNode 67 3 (pc' := 119) rfl rfl rfl ?_
      refine A_iconst K d_Nodes_takeNode 68 (pc' := 120) (v := (-1)) rfl rfl (by decide) ?_
      refine A_icmp_ne K d_Nodes_takeNode 69 127 (pc' := 123) rfl rfl rfl (fun q => ?_) (fun q => ?_)
      · replace h := h.1 q
        refine A_aload_n K d_Nodes_takeNode 72 1 (pc' := 128) rfl rfl rfl rfl ?_
        refine A_get K d_Nodes_takeNode 73 7 fl_Nodes_59 (pc' := 131) rfl rfl rfl rfl ?_
        refine A_iload K d_Nodes_takeNode 74 3 (pc' := 133) rfl rfl rfl ?_
        refine A_iald K d_Nodes_takeNode 75 8 0 (pc' := 134) rfl rfl rfl rfl h.1 ?_
        replace h := h.2
        refine A_topi (fun x_25 e_26 => ?_)
        replace h := h x_25 e_26
        refine A_aload_n K d_Nodes_takeNode 76 1 (pc' := 135) rfl rfl rfl rfl ?_
        refine A_get K d_Nodes_takeNode 77 7 fl_Nodes_66 (pc' := 138) rfl rfl rfl rfl ?_
        refine A_iload K d_Nodes_takeNode 78 3 (pc' := 140) rfl rfl rfl ?_
        refine A_iald K d_Nodes_takeNode 79 9 0 (pc' := 141) rfl rfl rfl rfl h.1 ?_
        replace h := h.2
        refine A_topi (fun x_27 e_28 => ?_)
        replace h := h x_27 e_28
        refine A_mmax K d_Nodes_takeNode 80 g_375 g_376 g_60 gm_max (pc' := 144) rfl rfl (Nat.le_trans (Nat.le_of_ble_eq_true rfl) hR1) (Nat.le_trans (Nat.le_of_ble_eq_true rfl) hR2) ⟨Nat.zero_le _, Nat.zero_le _⟩ ?_
        refine A_topi (fun x_29 e_30 => ?_)
        replace h := h x_29 e_30
        refine A_iastN K hBA d_Nodes_takeNode 81 5 0 (pc' := 145) (ws' := fun greater_31 => w_Nodes_takeNode cI cJ cZ a_t a_kindOf a_sizeOf a_above a_lesser a_greater a_inside a_ofEdge a_p1 a_p1_firstEnd a_p1_secondEnd a_p1_home a_p1_kindOf a_p1_startAt a_p1_links a_p2 a_p2_row a_p2_above a_p2_sideUp a_p2_number a_p2_least a_p2_weight kindOf_1 sizeOf_3 above_12 lesser_23 greater_31 inside_5 count p1_firstEnd p1_secondEnd p1_kindOf p1_slots p1_count p2_above p2_sideUp p2_number p2_count) rfl rfl rfl rfl h.1 (fun _ => rfl) (fun greater_31 e_32 => ?_)
        replace h := h.2 greater_31 e_32
        exact hend 82 _ _ _ _ _ _ _ _ rfl h
      · replace h := h.2 q
        refine A_iconst K d_Nodes_takeNode 70 (pc' := 124) (v := (-1)) rfl rfl (by decide) ?_
        refine A_goto K d_Nodes_takeNode 71 (pc' := 144) rfl rfl ?_
        refine A_iastN K hBA d_Nodes_takeNode 81 5 0 (pc' := 145) (ws' := fun greater_33 => w_Nodes_takeNode cI cJ cZ a_t a_kindOf a_sizeOf a_above a_lesser a_greater a_inside a_ofEdge a_p1 a_p1_firstEnd a_p1_secondEnd a_p1_home a_p1_kindOf a_p1_startAt a_p1_links a_p2 a_p2_row a_p2_above a_p2_sideUp a_p2_number a_p2_least a_p2_weight kindOf_1 sizeOf_3 above_12 lesser_23 greater_33 inside_5 count p1_firstEnd p1_secondEnd p1_kindOf p1_slots p1_count p2_above p2_sideUp p2_number p2_count) rfl rfl rfl rfl h.1 (fun _ => rfl) (fun greater_33 e_34 => ?_)
        replace h := h.2 greater_33 e_34
        exact hend 82 _ _ _ _ _ _ _ _ rfl h
    · intro J_15 hJ_16 h
      refine A_icmp_ne K d_Nodes_takeNode 51 93 (pc' := 89) rfl rfl rfl (fun q => ?_) (fun q => ?_)
      · replace h := h.1 q
        refine A_aload_n K d_Nodes_takeNode 54 1 (pc' := 94) rfl rfl rfl rfl ?_
        refine A_get K d_Nodes_takeNode 55 7 fl_Nodes_59 (pc' := 97) rfl rfl rfl rfl ?_
        refine A_iload K d_Nodes_takeNode 56 3 (pc' := 99) rfl rfl rfl ?_
        refine A_iald K d_Nodes_takeNode 57 8 0 (pc' := 100) rfl rfl rfl rfl h.1 ?_
        replace h := h.2
        refine A_topi (fun x_17 e_18 => ?_)
        replace h := h x_17 e_18
        refine A_aload_n K d_Nodes_takeNode 58 1 (pc' := 101) rfl rfl rfl rfl ?_
        refine A_get K d_Nodes_takeNode 59 7 fl_Nodes_66 (pc' := 104) rfl rfl rfl rfl ?_
        refine A_iload K d_Nodes_takeNode 60 3 (pc' := 106) rfl rfl rfl ?_
        refine A_iald K d_Nodes_takeNode 61 9 0 (pc' := 107) rfl rfl rfl rfl h.1 ?_
        replace h := h.2
        refine A_topi (fun x_19 e_20 => ?_)
        replace h := h x_19 e_20
        refine A_mmin K d_Nodes_takeNode 62 g_374 g_360 g_60 gm_min (pc' := 110) rfl rfl (Nat.le_trans (Nat.le_of_ble_eq_true rfl) hR1) (Nat.le_trans (Nat.le_of_ble_eq_true rfl) hR2) ⟨Nat.zero_le _, Nat.zero_le _⟩ ?_
        refine A_topi (fun x_21 e_22 => ?_)
        replace h := h x_21 e_22
        refine A_lv [0, 1, 2, 3] rfl ?_
        exact hJ_16 _ h
      · replace h := h.2 q
        refine A_iconst K d_Nodes_takeNode 52 (pc' := 90) (v := (-1)) rfl rfl (by decide) ?_
        refine A_goto K d_Nodes_takeNode 53 (pc' := 110) rfl rfl ?_
        refine A_lv [0, 1, 2, 3] rfl ?_
        exact hJ_16 _ h
  · intro J_8 hJ_9 h
    refine A_icmp_ne K d_Nodes_takeNode 38 69 (pc' := 65) rfl rfl rfl (fun q => ?_) (fun q => ?_)
    · replace h := h.1 q
      refine A_aload_n K d_Nodes_takeNode 41 5 (pc' := 70) rfl rfl rfl rfl ?_
      refine A_get K d_Nodes_takeNode 42 11 fl_Nodes_56 (pc' := 73) rfl rfl rfl rfl ?_
      refine A_iload K d_Nodes_takeNode 43 1 (pc' := 75) rfl rfl rfl ?_
      refine A_iald K d_Nodes_takeNode 44 14 0 (pc' := 76) rfl rfl rfl rfl h.1 ?_
      replace h := h.2
      refine A_topi (fun x_10 e_11 => ?_)
      replace h := h x_10 e_11
      refine A_lv [3, 4, 2, 0] rfl ?_
      exact hJ_9 _ h
    · replace h := h.2 q
      refine A_iconst K d_Nodes_takeNode 39 (pc' := 66) (v := (-1)) rfl rfl (by decide) ?_
      refine A_goto K d_Nodes_takeNode 40 (pc' := 76) rfl rfl ?_
      refine A_lv [3, 4, 2, 0] rfl ?_
      exact hJ_9 _ h
theorem met_Nodes_takeNode (l : Launch) (D : va_G) (cI cJ cZ : ClassId) (a_t a_kindOf a_sizeOf a_above a_lesser a_greater a_inside a_ofEdge a_p1 a_p1_firstEnd a_p1_secondEnd a_p1_home a_p1_kindOf a_p1_startAt a_p1_links a_p2 a_p2_row a_p2_above a_p2_sideUp a_p2_number a_p2_least a_p2_weight : Nat) (kindOf : Nat → Int32) (sizeOf : Nat → Int32) (above : Nat → Int32) (lesser : Nat → Int32) (greater : Nat → Int32) (inside : Nat → Int64) (count : Int32) (p1_firstEnd : Nat → Int32) (p1_secondEnd : Nat → Int32) (p1_kindOf : Nat → Int32) (p1_slots : Int32) (p1_count : Int32) (p2_above : Nat → Int32) (p2_sideUp : Nat → Int32) (p2_number : Nat → Int32) (p2_count : Int32) (x3 : Int32) (post : (Nat → Int32) → (Nat → Int32) → (Nat → Int32) → (Nat → Int32) → (Nat → Int32) → (Nat → Int64) → Prop) (sz : Nat) : Met l y_Nodes_takeNode (Cond.code y_Nodes_takeNode c_Nodes_takeNode 7 (Option.none : Option Jvm.ClassFile.FieldType) :: GW) { frames := 1, cells := 0, slots := 0, locals := 15 } (va_Pc [.ref a_t, .ref a_p1, .ref a_p2, .int x3] (fun U => sk_P D (tyl cI cJ cZ) (w_Nodes_takeNode cI cJ cZ a_t a_kindOf a_sizeOf a_above a_lesser a_greater a_inside a_ofEdge a_p1 a_p1_firstEnd a_p1_secondEnd a_p1_home a_p1_kindOf a_p1_startAt a_p1_links a_p2 a_p2_row a_p2_above a_p2_sideUp a_p2_number a_p2_least a_p2_weight kindOf sizeOf above lesser greater inside count p1_firstEnd p1_secondEnd p1_kindOf p1_slots p1_count p2_above p2_sideUp p2_number p2_count) sz U ∧ wp_Nodes_takeNode kindOf sizeOf above lesser greater inside p1_firstEnd p1_secondEnd p1_kindOf p2_above p2_sideUp p2_number x3 post)) (va_Qv (fun (u : (Nat → Int32) × (Nat → Int32) × (Nat → Int32) × (Nat → Int32) × (Nat → Int32) × (Nat → Int64)) => post  u.1 u.2.1 u.2.2.1 u.2.2.2.1 u.2.2.2.2.1 u.2.2.2.2.2) (fun u t => sk_B D (tyl cI cJ cZ) (w_Nodes_takeNode cI cJ cZ a_t a_kindOf a_sizeOf a_above a_lesser a_greater a_inside a_ofEdge a_p1 a_p1_firstEnd a_p1_secondEnd a_p1_home a_p1_kindOf a_p1_startAt a_p1_links a_p2 a_p2_row a_p2_above a_p2_sideUp a_p2_number a_p2_least a_p2_weight u.1 u.2.1 u.2.2.1 u.2.2.2.1 u.2.2.2.2.1 u.2.2.2.2.2 count p1_firstEnd p1_secondEnd p1_kindOf p1_slots p1_count p2_above p2_sideUp p2_number p2_count) (va_A (w_Nodes_takeNode cI cJ cZ a_t a_kindOf a_sizeOf a_above a_lesser a_greater a_inside a_ofEdge a_p1 a_p1_firstEnd a_p1_secondEnd a_p1_home a_p1_kindOf a_p1_startAt a_p1_links a_p2 a_p2_row a_p2_above a_p2_sideUp a_p2_number a_p2_least a_p2_weight kindOf sizeOf above lesser greater inside count p1_firstEnd p1_secondEnd p1_kindOf p1_slots p1_count p2_above p2_sideUp p2_number p2_count) sz) t) (va_A (w_Nodes_takeNode cI cJ cZ a_t a_kindOf a_sizeOf a_above a_lesser a_greater a_inside a_ofEdge a_p1 a_p1_firstEnd a_p1_secondEnd a_p1_home a_p1_kindOf a_p1_startAt a_p1_links a_p2 a_p2_row a_p2_above a_p2_sideUp a_p2_number a_p2_least a_p2_weight kindOf sizeOf above lesser greater inside count p1_firstEnd p1_secondEnd p1_kindOf p1_slots p1_count p2_above p2_sideUp p2_number p2_count) sz)) 0 0 (va_A (w_Nodes_takeNode cI cJ cZ a_t a_kindOf a_sizeOf a_above a_lesser a_greater a_inside a_ofEdge a_p1 a_p1_firstEnd a_p1_secondEnd a_p1_home a_p1_kindOf a_p1_startAt a_p1_links a_p2 a_p2_row a_p2_above a_p2_sideUp a_p2_number a_p2_least a_p2_weight kindOf sizeOf above lesser greater inside count p1_firstEnd p1_secondEnd p1_kindOf p1_slots p1_count p2_above p2_sideUp p2_number p2_count) sz) :=
  sk_intro (by decide) (Nat.le_of_ble_eq_true rfl) (fun p e s m below meth c K hr _ h => bd_Nodes_takeNode K (Nat.le_refl _) (Nat.le_refl _) (fun _ z => z) (fun ti pc y0 y1 y2 y3 y4 y5 lv hd hp => A_vret K d_Nodes_takeNode ti hr (post := (fun (u : (Nat → Int32) × (Nat → Int32) × (Nat → Int32) × (Nat → Int32) × (Nat → Int32) × (Nat → Int64)) => post  u.1 u.2.1 u.2.2.1 u.2.2.2.1 u.2.2.2.2.1 u.2.2.2.2.2)) (wl := fun (u : (Nat → Int32) × (Nat → Int32) × (Nat → Int32) × (Nat → Int32) × (Nat → Int32) × (Nat → Int64)) => w_Nodes_takeNode cI cJ cZ a_t a_kindOf a_sizeOf a_above a_lesser a_greater a_inside a_ofEdge a_p1 a_p1_firstEnd a_p1_secondEnd a_p1_home a_p1_kindOf a_p1_startAt a_p1_links a_p2 a_p2_row a_p2_above a_p2_sideUp a_p2_number a_p2_least a_p2_weight u.1 u.2.1 u.2.2.1 u.2.2.2.1 u.2.2.2.2.1 u.2.2.2.2.2 count p1_firstEnd p1_secondEnd p1_kindOf p1_slots p1_count p2_above p2_sideUp p2_number p2_count) (y0, y1, y2, y3, y4, y5) hd hp) h)
/-! SkeletonTree$Nodes.take(LSkeletonTree$Pieces;LSkeletonTree$Order;)V -/
def t_Nodes_take : List (Nat × Instr × Nat) := [(0, .aload_n 0, 1), (1, .aload_n 2, 1), (2, .getfield 38, 3), (5, .putfield 34, 3), (8, .iconst 0, 1), (9, .istore_n 3, 1), (10, .iload_n 3, 1), (11, .aload_n 0, 1), (12, .getfield 34, 3), (15, .if_icmp .ge 21, 3), (18, .aload_n 0, 1), (19, .aload_n 1, 1), (20, .aload_n 2, 1), (21, .aload_n 2, 1), (22, .getfield 41, 3), (25, .iload_n 3, 1), (26, .iaload, 1), (27, .invokevirtual 44, 3), (30, .iinc 3 1, 3), (33, .goto (-23), 3), (36, .iconst 0, 1), (37, .istore_n 3, 1), (38, .iload_n 3, 1), (39, .aload_n 1, 1), (40, .getfield 48, 3), (43, .if_icmp .ge 96, 3), (46, .aload_n 1, 1), (47, .getfield 53, 3), (50, .iload_n 3, 1), (51, .iaload, 1), (52, .iconst (-1), 1), (53, .if_icmp .ne 7, 3), (56, .iconst (-1), 1), (57, .goto 14, 3), (60, .aload_n 2, 1), (61, .getfield 56, 3), (64, .aload_n 1, 1), (65, .getfield 53, 3), (68, .iload_n 3, 1), (69, .iaload, 1), (70, .iaload, 1), (71, .istore 4, 2), (73, .iload 4, 2), (75, .iconst (-1), 1), (76, .if_icmp .eq 43, 3), (79, .aload_n 0, 1), (80, .getfield 15, 3), (83, .iload 4, 2), (85, .dup2, 1), (86, .iaload, 1), (87, .iconst 1, 1), (88, .iadd, 1), (89, .iastore, 1), (90, .aload_n 0, 1), (91, .getfield 27, 3), (94, .iload 4, 2), (96, .dup2, 1), (97, .laload, 1), (98, .aload_n 1, 1), (99, .getfield 59, 3), (102, .iload_n 3, 1), (103, .iaload, 1), (104, .invokestatic 62, 3), (107, .aload_n 1, 1), (108, .getfield 66, 3), (111, .iload_n 3, 1), (112, .iaload, 1), (113, .invokestatic 62, 3), (116, .lor, 1), (117, .lor, 1), (118, .lastore, 1), (119, .iload_n 3, 1), (120, .bipush 100, 2), (122, .if_icmp .ge 11, 3), (125, .aload_n 0, 1), (126, .getfield 31, 3), (129, .iload_n 3, 1), (130, .iload 4, 2), (132, .iastore, 1), (133, .iinc 3 1, 3), (136, .goto (-98), 3), (139, .return_, 1)]
set_option maxRecDepth 100000 in
theorem d_Nodes_take : sk_T c_Nodes_take t_Nodes_take := by unfold sk_T t_Nodes_take; decide +kernel
def w_Nodes_take (cI cJ cZ : ClassId) (a_t a_kindOf a_sizeOf a_above a_lesser a_greater a_inside a_ofEdge a_p1 a_p1_firstEnd a_p1_secondEnd a_p1_home a_p1_kindOf a_p1_startAt a_p1_links a_p2 a_p2_row a_p2_above a_p2_sideUp a_p2_number a_p2_least a_p2_weight : Nat) (kindOf : Nat → Int32) (sizeOf : Nat → Int32) (above : Nat → Int32) (lesser : Nat → Int32) (greater : Nat → Int32) (inside : Nat → Int64) (ofEdge : Nat → Int32) (count : Int32) (p1_firstEnd : Nat → Int32) (p1_secondEnd : Nat → Int32) (p1_home : Nat → Int32) (p1_kindOf : Nat → Int32) (p1_slots : Int32) (p1_count : Int32) (p2_row : Nat → Int32) (p2_above : Nat → Int32) (p2_sideUp : Nat → Int32) (p2_number : Nat → Int32) (p2_count : Int32) : va_W := [(a_t, .inr (1, [.ref a_kindOf, .ref a_sizeOf, .ref a_above, .ref a_lesser, .ref a_greater, .ref a_inside, .ref a_ofEdge, .int count])), (a_kindOf, .inl (cI, 98, .inl kindOf)), (a_sizeOf, .inl (cI, 98, .inl sizeOf)), (a_above, .inl (cI, 98, .inl above)), (a_lesser, .inl (cI, 98, .inl lesser)), (a_greater, .inl (cI, 98, .inl greater)), (a_inside, .inl (cJ, 98, .inr (.inl inside))), (a_ofEdge, .inl (cI, 100, .inl ofEdge)), (a_p1, .inr (3, [.ref a_p1_firstEnd, .ref a_p1_secondEnd, .ref a_p1_home, .ref a_p1_kindOf, .ref a_p1_startAt, .ref a_p1_links, .int p1_slots, .int p1_count])), (a_p1_firstEnd, .inl (cI, 294, .inl p1_firstEnd)), (a_p1_secondEnd, .inl (cI, 294, .inl p1_secondEnd)), (a_p1_home, .inl (cI, 294, .inl p1_home)), (a_p1_kindOf, .inl (cI, 98, .inl p1_kindOf)), (a_p2, .inr (2, [.ref a_p2_row, .ref a_p2_above, .ref a_p2_sideUp, .ref a_p2_number, .ref a_p2_least, .ref a_p2_weight, .int p2_count])), (a_p2_row, .inl (cI, 98, .inl p2_row)), (a_p2_above, .inl (cI, 98, .inl p2_above)), (a_p2_sideUp, .inl (cI, 98, .inl p2_sideUp)), (a_p2_number, .inl (cI, 98, .inl p2_number))]
def wp_Nodes_take  (kindOf : Nat → Int32) (sizeOf : Nat → Int32) (above : Nat → Int32) (lesser : Nat → Int32) (greater : Nat → Int32) (inside : Nat → Int64) (ofEdge : Nat → Int32) (count : Int32) (p1_firstEnd : Nat → Int32) (p1_secondEnd : Nat → Int32) (p1_home : Nat → Int32) (p1_kindOf : Nat → Int32) (p1_slots : Int32) (p2_row : Nat → Int32) (p2_above : Nat → Int32) (p2_sideUp : Nat → Int32) (p2_number : Nat → Int32) (p2_count : Int32)  (post : (Nat → Int32) → (Nat → Int32) → (Nat → Int32) → (Nat → Int32) → (Nat → Int32) → (Nat → Int64) → (Nat → Int32) → Int32 → Prop) : Prop :=
  ∃ n, sL7 (fun (K_8 : Int32 → (Nat → Int32) → (Nat → Int32) → (Nat → Int32) → (Nat → Int32) → (Nat → Int32) → (Nat → Int64) → Prop) (i3_1 : Int32) (kindOf_2 : Nat → Int32) (sizeOf_3 : Nat → Int32) (above_4 : Nat → Int32) (lesser_5 : Nat → Int32) (greater_6 : Nat → Int32) (inside_7 : Nat → Int64) => (p2_count ≤ i3_1 → ∃ n, sL4 (fun (K_15 : Int32 → (Nat → Int32) → (Nat → Int64) → (Nat → Int32) → Prop) (i3_11 : Int32) (sizeOf_12 : Nat → Int32) (inside_13 : Nat → Int64) (ofEdge_14 : Nat → Int32) => (p1_slots ≤ i3_11 → post kindOf_2 sizeOf_12 above_4 lesser_5 greater_6 inside_13 ofEdge_14 p2_count) ∧ (¬ p1_slots ≤ i3_11 → vp_in i3_11 294 ∧ jn1 (fun (z_18 : Int32) => jn2 (fun (sizeOf_23 : Nat → Int32) (inside_24 : Nat → Int64) => (100 ≤ i3_11 → K_15 (i3_11 + 1) sizeOf_23 inside_24 ofEdge_14) ∧ (¬ 100 ≤ i3_11 → vp_in i3_11 100 ∧ ∀ ofEdge_35 : Nat → Int32, ofEdge_35 = upd ofEdge_14 (ix i3_11) z_18 → K_15 (i3_11 + 1) sizeOf_23 inside_24 ofEdge_35)) (fun (J_25 : (Nat → Int32) → (Nat → Int64) → Prop) => (z_18 = (-1) → J_25 sizeOf_12 inside_13) ∧ (¬ z_18 = (-1) → vp_in z_18 98 ∧ vp_in z_18 98 ∧ ∀ sizeOf_27 : Nat → Int32, sizeOf_27 = upd sizeOf_12 (ix z_18) ((sizeOf_12 (ix z_18)) + 1) → vp_in z_18 98 ∧ vp_in i3_11 294 ∧ wp_Tree_only (p1_firstEnd (ix i3_11)) (fun r_29 => vp_in i3_11 294 ∧ wp_Tree_only (p1_secondEnd (ix i3_11)) (fun r_30 => ∀ x_31 : Int64, x_31 = (inside_13 (ix z_18)) ||| (r_29 ||| r_30) → vp_in z_18 98 ∧ ∀ inside_33 : Nat → Int64, inside_33 = vp_updL inside_13 (ix z_18) x_31 → J_25 sizeOf_27 inside_33))))) (fun (J_19 : Int32 → Prop) => (¬ (p1_home (ix i3_11)) = (-1) → vp_in i3_11 294 ∧ vp_in (p1_home (ix i3_11)) 98 ∧ ∀ x_21 : Int32, x_21 = p2_number (ix (p1_home (ix i3_11))) → J_19 x_21) ∧ ((p1_home (ix i3_11)) = (-1) → J_19 (-1))))) n 0 sizeOf_3 inside_7 ofEdge) ∧ (¬ p2_count ≤ i3_1 → vp_in i3_1 98 ∧ wp_Nodes_takeNode kindOf_2 sizeOf_3 above_4 lesser_5 greater_6 inside_7 p1_firstEnd p1_secondEnd p1_kindOf p2_above p2_sideUp p2_number (p2_row (ix i3_1)) (fun kindOf_37 sizeOf_38 above_39 lesser_40 greater_41 inside_42 => K_8 (i3_1 + 1) kindOf_37 sizeOf_38 above_39 lesser_40 greater_41 inside_42))) n 0 kindOf sizeOf above lesser greater inside
set_option maxHeartbeats 4000000 in
set_option maxRecDepth 100000 in
theorem bd_Nodes_take {p : Program} {l : Launch} {e : Env} {R : Room} {s : State} {m : MethodId} {args : Array Value} {below : List Frame} {meth : Method} {c : Code} {D : va_G} {A B : Nat → Prop} {Q : State → Prop} {cI cJ cZ : ClassId} {a_t a_kindOf a_sizeOf a_above a_lesser a_greater a_inside a_ofEdge a_p1 a_p1_firstEnd a_p1_secondEnd a_p1_home a_p1_kindOf a_p1_startAt a_p1_links a_p2 a_p2_row a_p2_above a_p2_sideUp a_p2_number a_p2_least a_p2_weight : Nat} {kindOf : Nat → Int32} {sizeOf : Nat → Int32} {above : Nat → Int32} {lesser : Nat → Int32} {greater : Nat → Int32} {inside : Nat → Int64} {ofEdge : Nat → Int32} {count : Int32} {p1_firstEnd : Nat → Int32} {p1_secondEnd : Nat → Int32} {p1_home : Nat → Int32} {p1_kindOf : Nat → Int32} {p1_slots : Int32} {p1_count : Int32} {p2_row : Nat → Int32} {p2_above : Nat → Int32} {p2_sideUp : Nat → Int32} {p2_number : Nat → Int32} {p2_count : Int32}  (K : sk_C p s m args meth c c_Nodes_take 5 "SkeletonTree$Nodes" D (tyl cI cJ cZ)) (hR1 : 2 ≤ R.frames) (hR2 : 41 ≤ R.locals) (hBA : ∀ q : Nat, B q → A q) {post : (Nat → Int32) → (Nat → Int32) → (Nat → Int32) → (Nat → Int32) → (Nat → Int32) → (Nat → Int64) → (Nat → Int32) → Int32 → Prop} (hend : ∀ (ti pc : Nat)  (y0 : Nat → Int32) (y1 : Nat → Int32) (y2 : Nat → Int32) (y3 : Nat → Int32) (y4 : Nat → Int32) (y5 : Nat → Int64) (y6 : Nat → Int32) (y7 : Int32) (lv : List (Nat × Value)), t_Nodes_take[ti]? = some (pc, .return_, 1) → post  y0 y1 y2 y3 y4 y5 y6 y7 → AW p l e R s m args below meth c D A B 5 Q 0 0 (w_Nodes_take cI cJ cZ a_t a_kindOf a_sizeOf a_above a_lesser a_greater a_inside a_ofEdge a_p1 a_p1_firstEnd a_p1_secondEnd a_p1_home a_p1_kindOf a_p1_startAt a_p1_links a_p2 a_p2_row a_p2_above a_p2_sideUp a_p2_number a_p2_least a_p2_weight y0 y1 y2 y3 y4 y5 y6 y7 p1_firstEnd p1_secondEnd p1_home p1_kindOf p1_slots p1_count p2_row p2_above p2_sideUp p2_number p2_count) lv pc []) (h : wp_Nodes_take kindOf sizeOf above lesser greater inside ofEdge count p1_firstEnd p1_secondEnd p1_home p1_kindOf p1_slots p2_row p2_above p2_sideUp p2_number p2_count post) : AW p l e R s m args below meth c D A B 5 Q 0 0 (w_Nodes_take cI cJ cZ a_t a_kindOf a_sizeOf a_above a_lesser a_greater a_inside a_ofEdge a_p1 a_p1_firstEnd a_p1_secondEnd a_p1_home a_p1_kindOf a_p1_startAt a_p1_links a_p2 a_p2_row a_p2_above a_p2_sideUp a_p2_number a_p2_least a_p2_weight kindOf sizeOf above lesser greater inside ofEdge count p1_firstEnd p1_secondEnd p1_home p1_kindOf p1_slots p1_count p2_row p2_above p2_sideUp p2_number p2_count) [(0, .ref a_t), (1, .ref a_p1), (2, .ref a_p2)] 0 [] := by
  unfold wp_Nodes_take at h
  refine A_aload_n K d_Nodes_take 0 0 (pc' := 1) rfl rfl rfl rfl ?_
  refine A_aload_n K d_Nodes_take 1 2 (pc' := 2) rfl rfl rfl rfl ?_
  refine A_get K d_Nodes_take 2 13 fl_Nodes_38 (pc' := 5) rfl rfl rfl rfl ?_
  refine A_put K hBA d_Nodes_take 3 0 fp_Nodes_34 (pc' := 8) (ws' := w_Nodes_take cI cJ cZ a_t a_kindOf a_sizeOf a_above a_lesser a_greater a_inside a_ofEdge a_p1 a_p1_firstEnd a_p1_secondEnd a_p1_home a_p1_kindOf a_p1_startAt a_p1_links a_p2 a_p2_row a_p2_above a_p2_sideUp a_p2_number a_p2_least a_p2_weight kindOf sizeOf above lesser greater inside ofEdge p2_count p1_firstEnd p1_secondEnd p1_home p1_kindOf p1_slots p1_count p2_row p2_above p2_sideUp p2_number p2_count) rfl rfl rfl (Nat.le_of_ble_eq_true rfl) rfl rfl rfl ?_
  refine A_iconst K d_Nodes_take 4 (pc' := 9) (v := 0) rfl rfl (by decide) ?_
  refine A_istore_n K d_Nodes_take 5 (pc' := 10) (lv' := [(3, .int 0), (0, .ref a_t), (1, .ref a_p1), (2, .ref a_p2)]) rfl rfl rfl (by decide) rfl ?_
  refine A_lv [1, 2, 3, 0] rfl ?_
  obtain ⟨n_10, h⟩ := h
  refine sL7_ind (fun (i3_1 : Int32) (kindOf_2 : Nat → Int32) (sizeOf_3 : Nat → Int32) (above_4 : Nat → Int32) (lesser_5 : Nat → Int32) (greater_6 : Nat → Int32) (inside_7 : Nat → Int64) => AW p l e R s m args below meth c D A B 5 Q 0 0 (w_Nodes_take cI cJ cZ a_t a_kindOf a_sizeOf a_above a_lesser a_greater a_inside a_ofEdge a_p1 a_p1_firstEnd a_p1_secondEnd a_p1_home a_p1_kindOf a_p1_startAt a_p1_links a_p2 a_p2_row a_p2_above a_p2_sideUp a_p2_number a_p2_least a_p2_weight kindOf_2 sizeOf_3 above_4 lesser_5 greater_6 inside_7 ofEdge p2_count p1_firstEnd p1_secondEnd p1_home p1_kindOf p1_slots p1_count p2_row p2_above p2_sideUp p2_number p2_count) [(0, .ref a_t), (1, .ref a_p1), (2, .ref a_p2), (3, .int i3_1)] 10 []) ?_ n_10 _ _ _ _ _ _ _ h
  intro K_8 ih_9 i3_1 kindOf_2 sizeOf_3 above_4 lesser_5 greater_6 inside_7 h
  refine A_iload_n K d_Nodes_take 6 3 (pc' := 11) rfl rfl rfl rfl ?_
  refine A_aload_n K d_Nodes_take 7 0 (pc' := 12) rfl rfl rfl rfl ?_
  refine A_get K d_Nodes_take 8 0 fl_Nodes_34 (pc' := 15) rfl rfl rfl rfl ?_
  refine A_icmp_ge K d_Nodes_take 9 36 (pc' := 18) rfl rfl rfl (fun q => ?_) (fun q => ?_)
  · replace h := h.1 q
    refine A_iconst K d_Nodes_take 20 (pc' := 37) (v := 0) rfl rfl (by decide) ?_
    refine A_istore_n K d_Nodes_take 21 (pc' := 38) (lv' := [(3, .int 0), (0, .ref a_t), (1, .ref a_p1), (2, .ref a_p2)]) rfl rfl rfl (by decide) rfl ?_
    refine A_lv [1, 2, 3, 0] rfl ?_
    obtain ⟨n_17, h⟩ := h
    refine sL4_ind (fun (i3_11 : Int32) (sizeOf_12 : Nat → Int32) (inside_13 : Nat → Int64) (ofEdge_14 : Nat → Int32) => AW p l e R s m args below meth c D A B 5 Q 0 0 (w_Nodes_take cI cJ cZ a_t a_kindOf a_sizeOf a_above a_lesser a_greater a_inside a_ofEdge a_p1 a_p1_firstEnd a_p1_secondEnd a_p1_home a_p1_kindOf a_p1_startAt a_p1_links a_p2 a_p2_row a_p2_above a_p2_sideUp a_p2_number a_p2_least a_p2_weight kindOf_2 sizeOf_12 above_4 lesser_5 greater_6 inside_13 ofEdge_14 p2_count p1_firstEnd p1_secondEnd p1_home p1_kindOf p1_slots p1_count p2_row p2_above p2_sideUp p2_number p2_count) [(0, .ref a_t), (1, .ref a_p1), (2, .ref a_p2), (3, .int i3_11)] 38 []) ?_ n_17 _ _ _ _ h
    intro K_15 ih_16 i3_11 sizeOf_12 inside_13 ofEdge_14 h
    refine A_iload_n K d_Nodes_take 22 3 (pc' := 39) rfl rfl rfl rfl ?_
    refine A_aload_n K d_Nodes_take 23 1 (pc' := 40) rfl rfl rfl rfl ?_
    refine A_get K d_Nodes_take 24 8 fl_Nodes_48 (pc' := 43) rfl rfl rfl rfl ?_
    refine A_icmp_ge K d_Nodes_take 25 139 (pc' := 46) rfl rfl rfl (fun q => ?_) (fun q => ?_)
    · replace h := h.1 q
      exact hend 81 _ _ _ _ _ _ _ _ _ _ rfl h
    · replace h := h.2 q
      refine A_aload_n K d_Nodes_take 26 1 (pc' := 47) rfl rfl rfl rfl ?_
      refine A_get K d_Nodes_take 27 8 fl_Nodes_53 (pc' := 50) rfl rfl rfl rfl ?_
      refine A_iload_n K d_Nodes_take 28 3 (pc' := 51) rfl rfl rfl rfl ?_
      refine A_iald K d_Nodes_take 29 11 0 (pc' := 52) rfl rfl rfl rfl h.1 ?_
      replace h := h.2
      refine A_iconst K d_Nodes_take 30 (pc' := 53) (v := (-1)) rfl rfl (by decide) ?_
      refine jn1_use (fun (z_18 : Int32) => AW p l e R s m args below meth c D A B 5 Q 0 0 (w_Nodes_take cI cJ cZ a_t a_kindOf a_sizeOf a_above a_lesser a_greater a_inside a_ofEdge a_p1 a_p1_firstEnd a_p1_secondEnd a_p1_home a_p1_kindOf a_p1_startAt a_p1_links a_p2 a_p2_row a_p2_above a_p2_sideUp a_p2_number a_p2_least a_p2_weight kindOf_2 sizeOf_12 above_4 lesser_5 greater_6 inside_13 ofEdge_14 p2_count p1_firstEnd p1_secondEnd p1_home p1_kindOf p1_slots p1_count p2_row p2_above p2_sideUp p2_number p2_count) [(0, .ref a_t), (1, .ref a_p1), (2, .ref a_p2), (3, .int i3_11)] 71 [.int z_18]) h ?_ ?_
      · intro z_18 h
        refine A_istore K d_Nodes_take 41 (pc' := 73) (lv' := [(4, .int z_18), (0, .ref a_t), (1, .ref a_p1), (2, .ref a_p2), (3, .int i3_11)]) rfl rfl (by decide) rfl ?_
        refine A_iload K d_Nodes_take 42 0 (pc' := 75) rfl rfl rfl ?_
        refine A_iconst K d_Nodes_take 43 (pc' := 76) (v := (-1)) rfl rfl (by decide) ?_
        refine jn2_use (fun (sizeOf_23 : Nat → Int32) (inside_24 : Nat → Int64) => AW p l e R s m args below meth c D A B 5 Q 0 0 (w_Nodes_take cI cJ cZ a_t a_kindOf a_sizeOf a_above a_lesser a_greater a_inside a_ofEdge a_p1 a_p1_firstEnd a_p1_secondEnd a_p1_home a_p1_kindOf a_p1_startAt a_p1_links a_p2 a_p2_row a_p2_above a_p2_sideUp a_p2_number a_p2_least a_p2_weight kindOf_2 sizeOf_23 above_4 lesser_5 greater_6 inside_24 ofEdge_14 p2_count p1_firstEnd p1_secondEnd p1_home p1_kindOf p1_slots p1_count p2_row p2_above p2_sideUp p2_number p2_count) [(0, .ref a_t), (1, .ref a_p1), (2, .ref a_p2), (3, .int i3_11), (4, .int z_18)] 119 []) h ?_ ?_
        · intro sizeOf_23 inside_24 h
          refine A_iload_n K d_Nodes_take 71 3 (pc' := 120) rfl rfl rfl rfl ?_
          refine A_bipush K d_Nodes_take 72 (pc' := 122) (v := 100) rfl rfl (by decide) ?_
          refine A_icmp_ge K d_Nodes_take 73 133 (pc' := 125) rfl rfl rfl (fun q => ?_) (fun q => ?_)
          · replace h := h.1 q
            refine A_iinc K d_Nodes_take 79 3 (pc' := 136) (v := i3_11 + 1) (lv' := [(3, .int (i3_11 + 1)), (0, .ref a_t), (1, .ref a_p1), (2, .ref a_p2), (4, .int z_18)]) rfl rfl rfl rfl (by decide) rfl ?_
            refine A_goto K d_Nodes_take 80 (pc' := 38) rfl rfl ?_
            refine A_lv [1, 2, 3, 0] rfl ?_
            exact ih_16 _ _ _ _ h
          · replace h := h.2 q
            refine A_aload_n K d_Nodes_take 74 0 (pc' := 126) rfl rfl rfl rfl ?_
            refine A_get K d_Nodes_take 75 0 fl_Nodes_31 (pc' := 129) rfl rfl rfl rfl ?_
            refine A_iload_n K d_Nodes_take 76 3 (pc' := 130) rfl rfl rfl rfl ?_
            refine A_iload K d_Nodes_take 77 4 (pc' := 132) rfl rfl rfl ?_
            refine A_iastN K hBA d_Nodes_take 78 7 0 (pc' := 133) (ws' := fun ofEdge_35 => w_Nodes_take cI cJ cZ a_t a_kindOf a_sizeOf a_above a_lesser a_greater a_inside a_ofEdge a_p1 a_p1_firstEnd a_p1_secondEnd a_p1_home a_p1_kindOf a_p1_startAt a_p1_links a_p2 a_p2_row a_p2_above a_p2_sideUp a_p2_number a_p2_least a_p2_weight kindOf_2 sizeOf_23 above_4 lesser_5 greater_6 inside_24 ofEdge_35 p2_count p1_firstEnd p1_secondEnd p1_home p1_kindOf p1_slots p1_count p2_row p2_above p2_sideUp p2_number p2_count) rfl rfl rfl rfl h.1 (fun _ => rfl) (fun ofEdge_35 e_36 => ?_)
            replace h := h.2 ofEdge_35 e_36
            refine A_iinc K d_Nodes_take 79 3 (pc' := 136) (v := i3_11 + 1) (lv' := [(3, .int (i3_11 + 1)), (0, .ref a_t), (1, .ref a_p1), (2, .ref a_p2), (4, .int z_18)]) rfl rfl rfl rfl (by decide) rfl ?_
            refine A_goto K d_Nodes_take 80 (pc' := 38) rfl rfl ?_
            refine A_lv [1, 2, 3, 0] rfl ?_
            exact ih_16 _ _ _ _ h
        · intro J_25 hJ_26 h
          refine A_icmp_eq K d_Nodes_take 44 119 (pc' := 79) rfl rfl rfl (fun q => ?_) (fun q => ?_)
          · replace h := h.1 q
            refine A_lv [1, 2, 3, 4, 0] rfl ?_
            exact hJ_26 _ _ h
          · replace h := h.2 q
            refine A_aload_n K d_Nodes_take 45 1 (pc' := 80) rfl rfl rfl rfl ?_
            refine A_get K d_Nodes_take 46 0 fl_Nodes_15 (pc' := 83) rfl rfl rfl rfl ?_
            refine A_iload K d_Nodes_take 47 0 (pc' := 85) rfl rfl rfl ?_
            refine A_dup2 K d_Nodes_take 48 (pc' := 86) rfl rfl rfl rfl ?_
            refine A_iald K d_Nodes_take 49 2 0 (pc' := 87) rfl rfl rfl rfl h.1 ?_
            replace h := h.2
            refine A_iconst K d_Nodes_take 50 (pc' := 88) (v := 1) rfl rfl (by decide) ?_
            refine A_iadd K d_Nodes_take 51 (pc' := 89) rfl rfl ?_
            refine A_iastN K hBA d_Nodes_take 52 2 0 (pc' := 90) (ws' := fun sizeOf_27 => w_Nodes_take cI cJ cZ a_t a_kindOf a_sizeOf a_above a_lesser a_greater a_inside a_ofEdge a_p1 a_p1_firstEnd a_p1_secondEnd a_p1_home a_p1_kindOf a_p1_startAt a_p1_links a_p2 a_p2_row a_p2_above a_p2_sideUp a_p2_number a_p2_least a_p2_weight kindOf_2 sizeOf_27 above_4 lesser_5 greater_6 inside_13 ofEdge_14 p2_count p1_firstEnd p1_secondEnd p1_home p1_kindOf p1_slots p1_count p2_row p2_above p2_sideUp p2_number p2_count) rfl rfl rfl rfl h.1 (fun _ => rfl) (fun sizeOf_27 e_28 => ?_)
            replace h := h.2 sizeOf_27 e_28
            refine A_aload_n K d_Nodes_take 53 1 (pc' := 91) rfl rfl rfl rfl ?_
            refine A_get K d_Nodes_take 54 0 fl_Nodes_27 (pc' := 94) rfl rfl rfl rfl ?_
            refine A_iload K d_Nodes_take 55 0 (pc' := 96) rfl rfl rfl ?_
            refine A_dup2 K d_Nodes_take 56 (pc' := 97) rfl rfl rfl rfl ?_
            refine A_lald K d_Nodes_take 57 6 1 (pc' := 98) rfl rfl rfl rfl h.1 ?_
            replace h := h.2
            refine A_aload_n K d_Nodes_take 58 2 (pc' := 99) rfl rfl rfl rfl ?_
            refine A_get K d_Nodes_take 59 8 fl_Nodes_59 (pc' := 102) rfl rfl rfl rfl ?_
            refine A_iload_n K d_Nodes_take 60 4 (pc' := 103) rfl rfl rfl rfl ?_
            refine A_iald K d_Nodes_take 61 9 0 (pc' := 104) rfl rfl rfl rfl h.1 ?_
            replace h := h.2
            refine R_callSN_l K d_Nodes_take 62 [] (As := [.int (p1_firstEnd (ix i3_11))]) (rest := [.long (inside_13 (ix z_18)), .int z_18, .ref a_inside]) (pc' := 107) v_Nodes_62 ⟨rfl, rfl, Nat.le_trans (Nat.le_of_ble_eq_true rfl) hR1, Nat.le_trans (Nat.le_of_ble_eq_true rfl) hR2⟩ (fun sz => met_Tree_only l D cI cJ cZ (p1_firstEnd (ix i3_11)) _ sz) h rfl rfl rfl rfl rfl rfl (Nat.le_of_ble_eq_true rfl) ⟨Nat.zero_le _, Nat.zero_le _⟩ (fun r_29 h => ?_)
            refine A_aload_n K d_Nodes_take 63 2 (pc' := 108) rfl rfl rfl rfl ?_
            refine A_get K d_Nodes_take 64 8 fl_Nodes_66 (pc' := 111) rfl rfl rfl rfl ?_
            refine A_iload_n K d_Nodes_take 65 4 (pc' := 112) rfl rfl rfl rfl ?_
            refine A_iald K d_Nodes_take 66 10 0 (pc' := 113) rfl rfl rfl rfl h.1 ?_
            replace h := h.2
            refine R_callSN_l K d_Nodes_take 67 [] (As := [.int (p1_secondEnd (ix i3_11))]) (rest := [.long r_29, .long (inside_13 (ix z_18)), .int z_18, .ref a_inside]) (pc' := 116) v_Nodes_62 ⟨rfl, rfl, Nat.le_trans (Nat.le_of_ble_eq_true rfl) hR1, Nat.le_trans (Nat.le_of_ble_eq_true rfl) hR2⟩ (fun sz => met_Tree_only l D cI cJ cZ (p1_secondEnd (ix i3_11)) _ sz) h rfl rfl rfl rfl rfl rfl (Nat.le_of_ble_eq_true rfl) ⟨Nat.zero_le _, Nat.zero_le _⟩ (fun r_30 h => ?_)
            refine A_lor K d_Nodes_take 68 (pc' := 117) rfl rfl ?_
            refine A_lor K d_Nodes_take 69 (pc' := 118) rfl rfl ?_
            refine A_topl (fun x_31 e_32 => ?_)
            replace h := h x_31 e_32
            refine A_lastN K hBA d_Nodes_take 70 6 1 (pc' := 119) (ws' := fun inside_33 => w_Nodes_take cI cJ cZ a_t a_kindOf a_sizeOf a_above a_lesser a_greater a_inside a_ofEdge a_p1 a_p1_firstEnd a_p1_secondEnd a_p1_home a_p1_kindOf a_p1_startAt a_p1_links a_p2 a_p2_row a_p2_above a_p2_sideUp a_p2_number a_p2_least a_p2_weight kindOf_2 sizeOf_27 above_4 lesser_5 greater_6 inside_33 ofEdge_14 p2_count p1_firstEnd p1_secondEnd p1_home p1_kindOf p1_slots p1_count p2_row p2_above p2_sideUp p2_number p2_count) rfl rfl rfl rfl h.1 (fun _ => rfl) (fun inside_33 e_34 => ?_)
            replace h := h.2 inside_33 e_34
            refine A_lv [1, 2, 3, 4, 0] rfl ?_
            exact hJ_26 _ _ h
      · intro J_19 hJ_20 h
        refine A_icmp_ne K d_Nodes_take 31 60 (pc' := 56) rfl rfl rfl (fun q => ?_) (fun q => ?_)
        · replace h := h.1 q
          refine A_aload_n K d_Nodes_take 34 2 (pc' := 61) rfl rfl rfl rfl ?_
          refine A_get K d_Nodes_take 35 13 fl_Nodes_56 (pc' := 64) rfl rfl rfl rfl ?_
          refine A_aload_n K d_Nodes_take 36 1 (pc' := 65) rfl rfl rfl rfl ?_
          refine A_get K d_Nodes_take 37 8 fl_Nodes_53 (pc' := 68) rfl rfl rfl rfl ?_
          refine A_iload_n K d_Nodes_take 38 3 (pc' := 69) rfl rfl rfl rfl ?_
          refine A_iald K d_Nodes_take 39 11 0 (pc' := 70) rfl rfl rfl rfl h.1 ?_
          replace h := h.2
          refine A_iald K d_Nodes_take 40 17 0 (pc' := 71) rfl rfl rfl rfl h.1 ?_
          replace h := h.2
          refine A_topi (fun x_21 e_22 => ?_)
          replace h := h x_21 e_22
          refine A_lv [0, 1, 2, 3] rfl ?_
          exact hJ_20 _ h
        · replace h := h.2 q
          refine A_iconst K d_Nodes_take 32 (pc' := 57) (v := (-1)) rfl rfl (by decide) ?_
          refine A_goto K d_Nodes_take 33 (pc' := 71) rfl rfl ?_
          refine A_lv [0, 1, 2, 3] rfl ?_
          exact hJ_20 _ h
  · replace h := h.2 q
    refine A_aload_n K d_Nodes_take 10 0 (pc' := 19) rfl rfl rfl rfl ?_
    refine A_aload_n K d_Nodes_take 11 1 (pc' := 20) rfl rfl rfl rfl ?_
    refine A_aload_n K d_Nodes_take 12 2 (pc' := 21) rfl rfl rfl rfl ?_
    refine A_aload_n K d_Nodes_take 13 2 (pc' := 22) rfl rfl rfl rfl ?_
    refine A_get K d_Nodes_take 14 13 fl_Nodes_41 (pc' := 25) rfl rfl rfl rfl ?_
    refine A_iload_n K d_Nodes_take 15 3 (pc' := 26) rfl rfl rfl rfl ?_
    refine A_iald K d_Nodes_take 16 14 0 (pc' := 27) rfl rfl rfl rfl h.1 ?_
    replace h := h.2
    refine C_Vv6 K hBA d_Nodes_take 17 [0, 1, 2, 3, 4, 5, 6, 8, 9, 10, 12, 13, 15, 16, 17] [some 0, some 1, some 2, some 3, some 4, some 5, some 6, none, some 7, some 8, some 9, none, some 10, some 11, none, some 12, some 13, some 14] (As := [.ref a_p1, .ref a_p2, .int (p2_row (ix i3_1))]) (rest := []) (pc' := 30) (wl := fun kindOf_37 sizeOf_38 above_39 lesser_40 greater_41 inside_42 => w_Nodes_takeNode cI cJ cZ a_t a_kindOf a_sizeOf a_above a_lesser a_greater a_inside a_ofEdge a_p1 a_p1_firstEnd a_p1_secondEnd a_p1_home a_p1_kindOf a_p1_startAt a_p1_links a_p2 a_p2_row a_p2_above a_p2_sideUp a_p2_number a_p2_least a_p2_weight kindOf_37 sizeOf_38 above_39 lesser_40 greater_41 inside_42 p2_count p1_firstEnd p1_secondEnd p1_kindOf p1_slots p1_count p2_above p2_sideUp p2_number p2_count) (ws' := fun kindOf_37 sizeOf_38 above_39 lesser_40 greater_41 inside_42 => w_Nodes_take cI cJ cZ a_t a_kindOf a_sizeOf a_above a_lesser a_greater a_inside a_ofEdge a_p1 a_p1_firstEnd a_p1_secondEnd a_p1_home a_p1_kindOf a_p1_startAt a_p1_links a_p2 a_p2_row a_p2_above a_p2_sideUp a_p2_number a_p2_least a_p2_weight kindOf_37 sizeOf_38 above_39 lesser_40 greater_41 inside_42 ofEdge p2_count p1_firstEnd p1_secondEnd p1_home p1_kindOf p1_slots p1_count p2_row p2_above p2_sideUp p2_number p2_count) v_Nodes_44 ⟨rfl, rfl, Nat.le_trans (Nat.le_of_ble_eq_true rfl) hR1, Nat.le_trans (Nat.le_of_ble_eq_true rfl) hR2⟩ (fun sz => met_Nodes_takeNode l D cI cJ cZ a_t a_kindOf a_sizeOf a_above a_lesser a_greater a_inside a_ofEdge a_p1 a_p1_firstEnd a_p1_secondEnd a_p1_home a_p1_kindOf a_p1_startAt a_p1_links a_p2 a_p2_row a_p2_above a_p2_sideUp a_p2_number a_p2_least a_p2_weight kindOf_2 sizeOf_3 above_4 lesser_5 greater_6 inside_7 p2_count p1_firstEnd p1_secondEnd p1_kindOf p1_slots p1_count p2_above p2_sideUp p2_number p2_count (p2_row (ix i3_1)) _ sz) h rfl rfl rfl rfl rfl (fun _ _ _ _ _ _ => rfl) rfl (by decide) (Nat.le_of_ble_eq_true rfl) ⟨Nat.zero_le _, Nat.zero_le _⟩ (q0 := 0) rfl rfl (fun _ _ _ _ _ _ => rfl) (fun kindOf_37 sizeOf_38 above_39 lesser_40 greater_41 inside_42 h => ?_)
    refine A_iinc K d_Nodes_take 18 3 (pc' := 33) (v := i3_1 + 1) (lv' := [(3, .int (i3_1 + 1)), (0, .ref a_t), (1, .ref a_p1), (2, .ref a_p2)]) rfl rfl rfl rfl (by decide) rfl ?_
    refine A_goto K d_Nodes_take 19 (pc' := 10) rfl rfl ?_
    refine A_lv [1, 2, 3, 0] rfl ?_
    exact ih_9 _ _ _ _ _ _ _ h
theorem met_Nodes_take (l : Launch) (D : va_G) (cI cJ cZ : ClassId) (a_t a_kindOf a_sizeOf a_above a_lesser a_greater a_inside a_ofEdge a_p1 a_p1_firstEnd a_p1_secondEnd a_p1_home a_p1_kindOf a_p1_startAt a_p1_links a_p2 a_p2_row a_p2_above a_p2_sideUp a_p2_number a_p2_least a_p2_weight : Nat) (kindOf : Nat → Int32) (sizeOf : Nat → Int32) (above : Nat → Int32) (lesser : Nat → Int32) (greater : Nat → Int32) (inside : Nat → Int64) (ofEdge : Nat → Int32) (count : Int32) (p1_firstEnd : Nat → Int32) (p1_secondEnd : Nat → Int32) (p1_home : Nat → Int32) (p1_kindOf : Nat → Int32) (p1_slots : Int32) (p1_count : Int32) (p2_row : Nat → Int32) (p2_above : Nat → Int32) (p2_sideUp : Nat → Int32) (p2_number : Nat → Int32) (p2_count : Int32)  (post : (Nat → Int32) → (Nat → Int32) → (Nat → Int32) → (Nat → Int32) → (Nat → Int32) → (Nat → Int64) → (Nat → Int32) → Int32 → Prop) (sz : Nat) : Met l y_Nodes_take (Cond.code y_Nodes_take c_Nodes_take 5 (Option.none : Option Jvm.ClassFile.FieldType) :: GW) { frames := 2, cells := 0, slots := 0, locals := 41 } (va_Pc [.ref a_t, .ref a_p1, .ref a_p2] (fun U => sk_P D (tyl cI cJ cZ) (w_Nodes_take cI cJ cZ a_t a_kindOf a_sizeOf a_above a_lesser a_greater a_inside a_ofEdge a_p1 a_p1_firstEnd a_p1_secondEnd a_p1_home a_p1_kindOf a_p1_startAt a_p1_links a_p2 a_p2_row a_p2_above a_p2_sideUp a_p2_number a_p2_least a_p2_weight kindOf sizeOf above lesser greater inside ofEdge count p1_firstEnd p1_secondEnd p1_home p1_kindOf p1_slots p1_count p2_row p2_above p2_sideUp p2_number p2_count) sz U ∧ wp_Nodes_take kindOf sizeOf above lesser greater inside ofEdge count p1_firstEnd p1_secondEnd p1_home p1_kindOf p1_slots p2_row p2_above p2_sideUp p2_number p2_count post)) (va_Qv (fun (u : (Nat → Int32) × (Nat → Int32) × (Nat → Int32) × (Nat → Int32) × (Nat → Int32) × (Nat → Int64) × (Nat → Int32) × Int32) => post  u.1 u.2.1 u.2.2.1 u.2.2.2.1 u.2.2.2.2.1 u.2.2.2.2.2.1 u.2.2.2.2.2.2.1 u.2.2.2.2.2.2.2) (fun u t => sk_B D (tyl cI cJ cZ) (w_Nodes_take cI cJ cZ a_t a_kindOf a_sizeOf a_above a_lesser a_greater a_inside a_ofEdge a_p1 a_p1_firstEnd a_p1_secondEnd a_p1_home a_p1_kindOf a_p1_startAt a_p1_links a_p2 a_p2_row a_p2_above a_p2_sideUp a_p2_number a_p2_least a_p2_weight u.1 u.2.1 u.2.2.1 u.2.2.2.1 u.2.2.2.2.1 u.2.2.2.2.2.1 u.2.2.2.2.2.2.1 u.2.2.2.2.2.2.2 p1_firstEnd p1_secondEnd p1_home p1_kindOf p1_slots p1_count p2_row p2_above p2_sideUp p2_number p2_count) (va_A (w_Nodes_take cI cJ cZ a_t a_kindOf a_sizeOf a_above a_lesser a_greater a_inside a_ofEdge a_p1 a_p1_firstEnd a_p1_secondEnd a_p1_home a_p1_kindOf a_p1_startAt a_p1_links a_p2 a_p2_row a_p2_above a_p2_sideUp a_p2_number a_p2_least a_p2_weight kindOf sizeOf above lesser greater inside ofEdge count p1_firstEnd p1_secondEnd p1_home p1_kindOf p1_slots p1_count p2_row p2_above p2_sideUp p2_number p2_count) sz) t) (va_A (w_Nodes_take cI cJ cZ a_t a_kindOf a_sizeOf a_above a_lesser a_greater a_inside a_ofEdge a_p1 a_p1_firstEnd a_p1_secondEnd a_p1_home a_p1_kindOf a_p1_startAt a_p1_links a_p2 a_p2_row a_p2_above a_p2_sideUp a_p2_number a_p2_least a_p2_weight kindOf sizeOf above lesser greater inside ofEdge count p1_firstEnd p1_secondEnd p1_home p1_kindOf p1_slots p1_count p2_row p2_above p2_sideUp p2_number p2_count) sz)) 0 0 (va_A (w_Nodes_take cI cJ cZ a_t a_kindOf a_sizeOf a_above a_lesser a_greater a_inside a_ofEdge a_p1 a_p1_firstEnd a_p1_secondEnd a_p1_home a_p1_kindOf a_p1_startAt a_p1_links a_p2 a_p2_row a_p2_above a_p2_sideUp a_p2_number a_p2_least a_p2_weight kindOf sizeOf above lesser greater inside ofEdge count p1_firstEnd p1_secondEnd p1_home p1_kindOf p1_slots p1_count p2_row p2_above p2_sideUp p2_number p2_count) sz) :=
  sk_intro (by decide) (Nat.le_of_ble_eq_true rfl) (fun p e s m below meth c K hr _ h => bd_Nodes_take K (Nat.le_refl _) (Nat.le_refl _) (fun _ z => z) (fun ti pc y0 y1 y2 y3 y4 y5 y6 y7 lv hd hp => A_vret K d_Nodes_take ti hr (post := (fun (u : (Nat → Int32) × (Nat → Int32) × (Nat → Int32) × (Nat → Int32) × (Nat → Int32) × (Nat → Int64) × (Nat → Int32) × Int32) => post  u.1 u.2.1 u.2.2.1 u.2.2.2.1 u.2.2.2.2.1 u.2.2.2.2.2.1 u.2.2.2.2.2.2.1 u.2.2.2.2.2.2.2)) (wl := fun (u : (Nat → Int32) × (Nat → Int32) × (Nat → Int32) × (Nat → Int32) × (Nat → Int32) × (Nat → Int64) × (Nat → Int32) × Int32) => w_Nodes_take cI cJ cZ a_t a_kindOf a_sizeOf a_above a_lesser a_greater a_inside a_ofEdge a_p1 a_p1_firstEnd a_p1_secondEnd a_p1_home a_p1_kindOf a_p1_startAt a_p1_links a_p2 a_p2_row a_p2_above a_p2_sideUp a_p2_number a_p2_least a_p2_weight u.1 u.2.1 u.2.2.1 u.2.2.2.1 u.2.2.2.2.1 u.2.2.2.2.2.1 u.2.2.2.2.2.2.1 u.2.2.2.2.2.2.2 p1_firstEnd p1_secondEnd p1_home p1_kindOf p1_slots p1_count p2_row p2_above p2_sideUp p2_number p2_count) (y0, y1, y2, y3, y4, y5, y6, y7) hd hp) h)
/-! SkeletonTree$Nodes.findNeighbour(II)I -/
def t_Nodes_findNeighbour : List (Nat × Instr × Nat) := [(0, .iload_n 2, 1), (1, .istore_n 3, 1), (2, .iconst 0, 1), (3, .istore 4, 2), (5, .iload 4, 2), (7, .aload_n 0, 1), (8, .getfield 34, 3), (11, .if_icmp .ge 41, 3), (14, .iload 4, 2), (16, .aload_n 0, 1), (17, .getfield 18, 3), (20, .iload_n 1, 1), (21, .iaload, 1), (22, .if_icmp .eq 14, 3), (25, .aload_n 0, 1), (26, .getfield 18, 3), (29, .iload 4, 2), (31, .iaload, 1), (32, .iload_n 1, 1), (33, .if_icmp .ne 13, 3), (36, .iload_n 3, 1), (37, .ifCond .ne 6, 3), (40, .iload 4, 2), (42, .ireturn, 1), (43, .iinc 3 (-1), 3), (46, .iinc 4 1, 3), (49, .goto (-44), 3), (52, .iconst (-1), 1), (53, .ireturn, 1)]
set_option maxRecDepth 100000 in
theorem d_Nodes_findNeighbour : sk_T c_Nodes_findNeighbour t_Nodes_findNeighbour := by unfold sk_T t_Nodes_findNeighbour; decide +kernel
def w_Nodes_findNeighbour (cI cJ cZ : ClassId) (a_t a_kindOf a_sizeOf a_above a_lesser a_greater a_inside a_ofEdge : Nat) (above : Nat → Int32) (count : Int32) : va_W := [(a_t, .inr (1, [.ref a_kindOf, .ref a_sizeOf, .ref a_above, .ref a_lesser, .ref a_greater, .ref a_inside, .ref a_ofEdge, .int count])), (a_above, .inl (cI, 98, .inl above))]
def wp_Nodes_findNeighbour  (above : Nat → Int32) (count : Int32) (x1 : Int32) (x2 : Int32) (post : Int32 → Prop) : Prop :=
  ∃ n, sL2 (fun (K_3 : Int32 → Int32 → Prop) (i3_1 : Int32) (i4_2 : Int32) => (count ≤ i4_2 → post (-1) ) ∧ (¬ count ≤ i4_2 → vp_in x1 98 ∧ (i4_2 = (above (ix x1)) → (¬ i3_1 = 0 → K_3 (i3_1 + (-1)) (i4_2 + 1)) ∧ (i3_1 = 0 → post i4_2 )) ∧ (¬ i4_2 = (above (ix x1)) → vp_in i4_2 98 ∧ (¬ (above (ix i4_2)) = x1 → K_3 i3_1 (i4_2 + 1)) ∧ ((above (ix i4_2)) = x1 → (¬ i3_1 = 0 → K_3 (i3_1 + (-1)) (i4_2 + 1)) ∧ (i3_1 = 0 → post i4_2 ))))) n x2 0
set_option maxHeartbeats 4000000 in
set_option maxRecDepth 100000 in
theorem bd_Nodes_findNeighbour {p : Program} {l : Launch} {e : Env} {R : Room} {s : State} {m : MethodId} {args : Array Value} {below : List Frame} {meth : Method} {c : Code} {D : va_G} {A B : Nat → Prop} {Q : State → Prop} {cI cJ cZ : ClassId} {a_t a_kindOf a_sizeOf a_above a_lesser a_greater a_inside a_ofEdge : Nat} {above : Nat → Int32} {count : Int32} {x1 : Int32} {x2 : Int32} (K : sk_C p s m args meth c c_Nodes_findNeighbour 5 "SkeletonTree$Nodes" D (tyl cI cJ cZ)) (hR1 : 0 ≤ R.frames) (hR2 : 0 ≤ R.locals) {post : Int32 → Prop} (hend : ∀ (ti pc : Nat) (r : Int32)  (lv : List (Nat × Value)), t_Nodes_findNeighbour[ti]? = some (pc, .ireturn, 1) → post r  → AW p l e R s m args below meth c D A B 5 Q 0 0 (w_Nodes_findNeighbour cI cJ cZ a_t a_kindOf a_sizeOf a_above a_lesser a_greater a_inside a_ofEdge above count) lv pc [.int r]) (h : wp_Nodes_findNeighbour above count x1 x2 post) : AW p l e R s m args below meth c D A B 5 Q 0 0 (w_Nodes_findNeighbour cI cJ cZ a_t a_kindOf a_sizeOf a_above a_lesser a_greater a_inside a_ofEdge above count) [(0, .ref a_t), (1, .int x1), (2, .int x2)] 0 [] := by
  unfold wp_Nodes_findNeighbour at h
  refine A_iload_n K d_Nodes_findNeighbour 0 2 (pc' := 1) rfl rfl rfl rfl ?_
  refine A_istore_n K d_Nodes_findNeighbour 1 (pc' := 2) (lv' := [(3, .int x2), (0, .ref a_t), (1, .int x1), (2, .int x2)]) rfl rfl rfl (by decide) rfl ?_
  refine A_iconst K d_Nodes_findNeighbour 2 (pc' := 3) (v := 0) rfl rfl (by decide) ?_
  refine A_istore K d_Nodes_findNeighbour 3 (pc' := 5) (lv' := [(4, .int 0), (3, .int x2), (0, .ref a_t), (1, .int x1), (2, .int x2)]) rfl rfl (by decide) rfl ?_
  refine A_lv [2, 3, 1, 0] rfl ?_
  obtain ⟨n_5, h⟩ := h
  refine sL2_ind (fun (i3_1 : Int32) (i4_2 : Int32) => AW p l e R s m args below meth c D A B 5 Q 0 0 (w_Nodes_findNeighbour cI cJ cZ a_t a_kindOf a_sizeOf a_above a_lesser a_greater a_inside a_ofEdge above count) [(0, .ref a_t), (1, .int x1), (3, .int i3_1), (4, .int i4_2)] 5 []) ?_ n_5 _ _ h
  intro K_3 ih_4 i3_1 i4_2 h
  refine A_iload K d_Nodes_findNeighbour 4 3 (pc' := 7) rfl rfl rfl ?_
  refine A_aload_n K d_Nodes_findNeighbour 5 0 (pc' := 8) rfl rfl rfl rfl ?_
  refine A_get K d_Nodes_findNeighbour 6 0 fl_Nodes_34 (pc' := 11) rfl rfl rfl rfl ?_
  refine A_icmp_ge K d_Nodes_findNeighbour 7 52 (pc' := 14) rfl rfl rfl (fun q => ?_) (fun q => ?_)
  · replace h := h.1 q
    refine A_iconst K d_Nodes_findNeighbour 27 (pc' := 53) (v := (-1)) rfl rfl (by decide) ?_
    exact hend 28 _ _ _ rfl h
  · replace h := h.2 q
    refine A_iload K d_Nodes_findNeighbour 8 3 (pc' := 16) rfl rfl rfl ?_
    refine A_aload_n K d_Nodes_findNeighbour 9 0 (pc' := 17) rfl rfl rfl rfl ?_
    refine A_get K d_Nodes_findNeighbour 10 0 fl_Nodes_18 (pc' := 20) rfl rfl rfl rfl ?_
    refine A_iload_n K d_Nodes_findNeighbour 11 1 (pc' := 21) rfl rfl rfl rfl ?_
    refine A_iald K d_Nodes_findNeighbour 12 1 0 (pc' := 22) rfl rfl rfl rfl h.1 ?_
    replace h := h.2
    refine A_icmp_eq K d_Nodes_findNeighbour 13 36 (pc' := 25) rfl rfl rfl (fun q => ?_) (fun q => ?_)
    · replace h := h.1 q
      refine A_iload_n K d_Nodes_findNeighbour 20 2 (pc' := 37) rfl rfl rfl rfl ?_
      refine A_if_ne K d_Nodes_findNeighbour 21 43 (pc' := 40) rfl rfl rfl (fun q => ?_) (fun q => ?_)
      · replace h := h.1 q
        refine A_iinc K d_Nodes_findNeighbour 24 2 (pc' := 46) (v := i3_1 + (-1)) (lv' := [(3, .int (i3_1 + (-1))), (0, .ref a_t), (1, .int x1), (4, .int i4_2)]) rfl rfl rfl rfl (by decide) rfl ?_
        refine A_iinc K d_Nodes_findNeighbour 25 3 (pc' := 49) (v := i4_2 + 1) (lv' := [(4, .int (i4_2 + 1)), (3, .int (i3_1 + (-1))), (0, .ref a_t), (1, .int x1)]) rfl rfl rfl rfl (by decide) rfl ?_
        refine A_goto K d_Nodes_findNeighbour 26 (pc' := 5) rfl rfl ?_
        refine A_lv [2, 3, 1, 0] rfl ?_
        exact ih_4 _ _ h
      · replace h := h.2 q
        refine A_iload K d_Nodes_findNeighbour 22 3 (pc' := 42) rfl rfl rfl ?_
        exact hend 23 _ _ _ rfl h
    · replace h := h.2 q
      refine A_aload_n K d_Nodes_findNeighbour 14 0 (pc' := 26) rfl rfl rfl rfl ?_
      refine A_get K d_Nodes_findNeighbour 15 0 fl_Nodes_18 (pc' := 29) rfl rfl rfl rfl ?_
      refine A_iload K d_Nodes_findNeighbour 16 3 (pc' := 31) rfl rfl rfl ?_
      refine A_iald K d_Nodes_findNeighbour 17 1 0 (pc' := 32) rfl rfl rfl rfl h.1 ?_
      replace h := h.2
      refine A_iload_n K d_Nodes_findNeighbour 18 1 (pc' := 33) rfl rfl rfl rfl ?_
      refine A_icmp_ne K d_Nodes_findNeighbour 19 46 (pc' := 36) rfl rfl rfl (fun q => ?_) (fun q => ?_)
      · replace h := h.1 q
        refine A_iinc K d_Nodes_findNeighbour 25 3 (pc' := 49) (v := i4_2 + 1) (lv' := [(4, .int (i4_2 + 1)), (0, .ref a_t), (1, .int x1), (3, .int i3_1)]) rfl rfl rfl rfl (by decide) rfl ?_
        refine A_goto K d_Nodes_findNeighbour 26 (pc' := 5) rfl rfl ?_
        refine A_lv [1, 2, 3, 0] rfl ?_
        exact ih_4 _ _ h
      · replace h := h.2 q
        refine A_iload_n K d_Nodes_findNeighbour 20 2 (pc' := 37) rfl rfl rfl rfl ?_
        refine A_if_ne K d_Nodes_findNeighbour 21 43 (pc' := 40) rfl rfl rfl (fun q => ?_) (fun q => ?_)
        · replace h := h.1 q
          refine A_iinc K d_Nodes_findNeighbour 24 2 (pc' := 46) (v := i3_1 + (-1)) (lv' := [(3, .int (i3_1 + (-1))), (0, .ref a_t), (1, .int x1), (4, .int i4_2)]) rfl rfl rfl rfl (by decide) rfl ?_
          refine A_iinc K d_Nodes_findNeighbour 25 3 (pc' := 49) (v := i4_2 + 1) (lv' := [(4, .int (i4_2 + 1)), (3, .int (i3_1 + (-1))), (0, .ref a_t), (1, .int x1)]) rfl rfl rfl rfl (by decide) rfl ?_
          refine A_goto K d_Nodes_findNeighbour 26 (pc' := 5) rfl rfl ?_
          refine A_lv [2, 3, 1, 0] rfl ?_
          exact ih_4 _ _ h
        · replace h := h.2 q
          refine A_iload K d_Nodes_findNeighbour 22 3 (pc' := 42) rfl rfl rfl ?_
          exact hend 23 _ _ _ rfl h
theorem met_Nodes_findNeighbour (l : Launch) (D : va_G) (cI cJ cZ : ClassId) (a_t a_kindOf a_sizeOf a_above a_lesser a_greater a_inside a_ofEdge : Nat) (above : Nat → Int32) (count : Int32) (x1 : Int32) (x2 : Int32) (post : Int32 → Prop) (sz : Nat) : Met l y_Nodes_findNeighbour (Cond.code y_Nodes_findNeighbour c_Nodes_findNeighbour 5 (Option.some Jvm.ClassFile.FieldType.int) :: GW) { frames := 0, cells := 0, slots := 0, locals := 0 } (va_Pc [.ref a_t, .int x1, .int x2] (fun U => sk_P D (tyl cI cJ cZ) (w_Nodes_findNeighbour cI cJ cZ a_t a_kindOf a_sizeOf a_above a_lesser a_greater a_inside a_ofEdge above count) sz U ∧ wp_Nodes_findNeighbour above count x1 x2 post)) (va_Qi (fun (r : Int32) (_ : Unit) => post r) (fun _ t => sk_B D (tyl cI cJ cZ) (w_Nodes_findNeighbour cI cJ cZ a_t a_kindOf a_sizeOf a_above a_lesser a_greater a_inside a_ofEdge above count) (fun _ => True) t) (fun q => sz ≤ q)) 0 0 (fun q => sz ≤ q) :=
  sk_introR (by decide) (Nat.le_of_ble_eq_true rfl) (fun p e s m below meth c K hr _ h => bd_Nodes_findNeighbour K (Nat.le_refl _) (Nat.le_refl _) (fun ti pc r  lv hd hp => A_iret K d_Nodes_findNeighbour ti hr (post := (fun (r : Int32) (_ : Unit) => post r)) (wl := fun (_ : Unit) => w_Nodes_findNeighbour cI cJ cZ a_t a_kindOf a_sizeOf a_above a_lesser a_greater a_inside a_ofEdge above count) () hd hp) h)
/-! SkeletonTree$Nodes.nameNode(I)I -/
def t_Nodes_nameNode : List (Nat × Instr × Nat) := [(0, .bipush (-2), 2), (2, .iload_n 0, 1), (3, .isub, 1), (4, .ireturn, 1)]
set_option maxRecDepth 100000 in
theorem d_Nodes_nameNode : sk_T c_Nodes_nameNode t_Nodes_nameNode := by unfold sk_T t_Nodes_nameNode; decide +kernel
def w_Nodes_nameNode (cI cJ cZ : ClassId)   : va_W := []
def wp_Nodes_nameNode   (x0 : Int32) (post : Int32 → Prop) : Prop :=
  post ((-2) - x0) 
set_option maxHeartbeats 4000000 in
set_option maxRecDepth 100000 in
theorem bd_Nodes_nameNode {p : Program} {l : Launch} {e : Env} {R : Room} {s : State} {m : MethodId} {args : Array Value} {below : List Frame} {meth : Method} {c : Code} {D : va_G} {A B : Nat → Prop} {Q : State → Prop} {cI cJ cZ : ClassId}   {x0 : Int32} (K : sk_C p s m args meth c c_Nodes_nameNode 1 "SkeletonTree$Nodes" D (tyl cI cJ cZ)) (hR1 : 0 ≤ R.frames) (hR2 : 0 ≤ R.locals) {post : Int32 → Prop} (hend : ∀ (ti pc : Nat) (r : Int32)  (lv : List (Nat × Value)), t_Nodes_nameNode[ti]? = some (pc, .ireturn, 1) → post r  → AW p l e R s m args below meth c D A B 1 Q 0 0 (w_Nodes_nameNode cI cJ cZ ) lv pc [.int r]) (h : wp_Nodes_nameNode x0 post) : AW p l e R s m args below meth c D A B 1 Q 0 0 (w_Nodes_nameNode cI cJ cZ ) [(0, .int x0)] 0 [] := by
  unfold wp_Nodes_nameNode at h
  refine A_bipush K d_Nodes_nameNode 0 (pc' := 2) (v := (-2)) rfl rfl (by decide) ?_
  refine A_iload_n K d_Nodes_nameNode 1 0 (pc' := 3) rfl rfl rfl rfl ?_
  refine A_isub K d_Nodes_nameNode 2 (pc' := 4) rfl rfl ?_
  exact hend 3 _ _ _ rfl h
theorem met_Nodes_nameNode (l : Launch) (D : va_G) (cI cJ cZ : ClassId)   (x0 : Int32) (post : Int32 → Prop) (sz : Nat) : Met l y_Nodes_nameNode (Cond.code y_Nodes_nameNode c_Nodes_nameNode 1 (Option.some Jvm.ClassFile.FieldType.int) :: GW) { frames := 0, cells := 0, slots := 0, locals := 0 } (va_Pc [.int x0] (fun U => sk_P D (tyl cI cJ cZ) (w_Nodes_nameNode cI cJ cZ ) sz U ∧ wp_Nodes_nameNode x0 post)) (va_Qi (fun (r : Int32) (_ : Unit) => post r) (fun _ t => sk_B D (tyl cI cJ cZ) (w_Nodes_nameNode cI cJ cZ ) (fun _ => True) t) (fun q => sz ≤ q)) 0 0 (fun q => sz ≤ q) :=
  sk_introR (by decide) (Nat.le_of_ble_eq_true rfl) (fun p e s m below meth c K hr _ h => bd_Nodes_nameNode K (Nat.le_refl _) (Nat.le_refl _) (fun ti pc r  lv hd hp => A_iret K d_Nodes_nameNode ti hr (post := (fun (r : Int32) (_ : Unit) => post r)) (wl := fun (_ : Unit) => w_Nodes_nameNode cI cJ cZ ) () hd hp) h)
/-! SkeletonTree$Nodes.findItem(II)I -/
def t_Nodes_findItem : List (Nat × Instr × Nat) := [(0, .iload_n 2, 1), (1, .istore_n 3, 1), (2, .iconst 0, 1), (3, .istore 4, 2), (5, .iload 4, 2), (7, .bipush 100, 2), (9, .if_icmp .ge 30, 3), (12, .aload_n 0, 1), (13, .getfield 31, 3), (16, .iload 4, 2), (18, .iaload, 1), (19, .iload_n 1, 1), (20, .if_icmp .ne 13, 3), (23, .iload_n 3, 1), (24, .ifCond .ne 6, 3), (27, .iload 4, 2), (29, .ireturn, 1), (30, .iinc 3 (-1), 3), (33, .iinc 4 1, 3), (36, .goto (-31), 3), (39, .aload_n 0, 1), (40, .iload_n 1, 1), (41, .iload_n 3, 1), (42, .invokevirtual 83, 3), (45, .invokestatic 86, 3), (48, .ireturn, 1)]
set_option maxRecDepth 100000 in
theorem d_Nodes_findItem : sk_T c_Nodes_findItem t_Nodes_findItem := by unfold sk_T t_Nodes_findItem; decide +kernel
def w_Nodes_findItem (cI cJ cZ : ClassId) (a_t a_kindOf a_sizeOf a_above a_lesser a_greater a_inside a_ofEdge : Nat) (above : Nat → Int32) (ofEdge : Nat → Int32) (count : Int32) : va_W := [(a_t, .inr (1, [.ref a_kindOf, .ref a_sizeOf, .ref a_above, .ref a_lesser, .ref a_greater, .ref a_inside, .ref a_ofEdge, .int count])), (a_above, .inl (cI, 98, .inl above)), (a_ofEdge, .inl (cI, 100, .inl ofEdge))]
def wp_Nodes_findItem  (above : Nat → Int32) (ofEdge : Nat → Int32) (count : Int32) (x1 : Int32) (x2 : Int32) (post : Int32 → Prop) : Prop :=
  ∃ n, sL2 (fun (K_3 : Int32 → Int32 → Prop) (i3_1 : Int32) (i4_2 : Int32) => (100 ≤ i4_2 → wp_Nodes_findNeighbour above count x1 i3_1 (fun r_6 => wp_Nodes_nameNode r_6 (fun r_7 => post r_7 ))) ∧ (¬ 100 ≤ i4_2 → vp_in i4_2 100 ∧ (¬ (ofEdge (ix i4_2)) = x1 → K_3 i3_1 (i4_2 + 1)) ∧ ((ofEdge (ix i4_2)) = x1 → (¬ i3_1 = 0 → K_3 (i3_1 + (-1)) (i4_2 + 1)) ∧ (i3_1 = 0 → post i4_2 )))) n x2 0
set_option maxHeartbeats 4000000 in
set_option maxRecDepth 100000 in
theorem bd_Nodes_findItem {p : Program} {l : Launch} {e : Env} {R : Room} {s : State} {m : MethodId} {args : Array Value} {below : List Frame} {meth : Method} {c : Code} {D : va_G} {A B : Nat → Prop} {Q : State → Prop} {cI cJ cZ : ClassId} {a_t a_kindOf a_sizeOf a_above a_lesser a_greater a_inside a_ofEdge : Nat} {above : Nat → Int32} {ofEdge : Nat → Int32} {count : Int32} {x1 : Int32} {x2 : Int32} (K : sk_C p s m args meth c c_Nodes_findItem 5 "SkeletonTree$Nodes" D (tyl cI cJ cZ)) (hR1 : 1 ≤ R.frames) (hR2 : 24 ≤ R.locals) {post : Int32 → Prop} (hend : ∀ (ti pc : Nat) (r : Int32)  (lv : List (Nat × Value)), t_Nodes_findItem[ti]? = some (pc, .ireturn, 1) → post r  → AW p l e R s m args below meth c D A B 5 Q 0 0 (w_Nodes_findItem cI cJ cZ a_t a_kindOf a_sizeOf a_above a_lesser a_greater a_inside a_ofEdge above ofEdge count) lv pc [.int r]) (h : wp_Nodes_findItem above ofEdge count x1 x2 post) : AW p l e R s m args below meth c D A B 5 Q 0 0 (w_Nodes_findItem cI cJ cZ a_t a_kindOf a_sizeOf a_above a_lesser a_greater a_inside a_ofEdge above ofEdge count) [(0, .ref a_t), (1, .int x1), (2, .int x2)] 0 [] := by
  unfold wp_Nodes_findItem at h
  refine A_iload_n K d_Nodes_findItem 0 2 (pc' := 1) rfl rfl rfl rfl ?_
  refine A_istore_n K d_Nodes_findItem 1 (pc' := 2) (lv' := [(3, .int x2), (0, .ref a_t), (1, .int x1), (2, .int x2)]) rfl rfl rfl (by decide) rfl ?_
  refine A_iconst K d_Nodes_findItem 2 (pc' := 3) (v := 0) rfl rfl (by decide) ?_
  refine A_istore K d_Nodes_findItem 3 (pc' := 5) (lv' := [(4, .int 0), (3, .int x2), (0, .ref a_t), (1, .int x1), (2, .int x2)]) rfl rfl (by decide) rfl ?_
  refine A_lv [2, 3, 1, 0] rfl ?_
  obtain ⟨n_5, h⟩ := h
  refine sL2_ind (fun (i3_1 : Int32) (i4_2 : Int32) => AW p l e R s m args below meth c D A B 5 Q 0 0 (w_Nodes_findItem cI cJ cZ a_t a_kindOf a_sizeOf a_above a_lesser a_greater a_inside a_ofEdge above ofEdge count) [(0, .ref a_t), (1, .int x1), (3, .int i3_1), (4, .int i4_2)] 5 []) ?_ n_5 _ _ h
  intro K_3 ih_4 i3_1 i4_2 h
  refine A_iload K d_Nodes_findItem 4 3 (pc' := 7) rfl rfl rfl ?_
  refine A_bipush K d_Nodes_findItem 5 (pc' := 9) (v := 100) rfl rfl (by decide) ?_
  refine A_icmp_ge K d_Nodes_findItem 6 39 (pc' := 12) rfl rfl rfl (fun q => ?_) (fun q => ?_)
  · replace h := h.1 q
    refine A_aload_n K d_Nodes_findItem 20 0 (pc' := 40) rfl rfl rfl rfl ?_
    refine A_iload_n K d_Nodes_findItem 21 1 (pc' := 41) rfl rfl rfl rfl ?_
    refine A_iload_n K d_Nodes_findItem 22 2 (pc' := 42) rfl rfl rfl rfl ?_
    refine R_callV_i K d_Nodes_findItem 23 [0, 1] (As := [.int x1, .int i3_1]) (rest := []) (pc' := 45) v_Nodes_83 ⟨rfl, rfl, Nat.le_trans (Nat.le_of_ble_eq_true rfl) hR1, Nat.le_trans (Nat.le_of_ble_eq_true rfl) hR2⟩ (fun sz => met_Nodes_findNeighbour l D cI cJ cZ a_t a_kindOf a_sizeOf a_above a_lesser a_greater a_inside a_ofEdge above count x1 i3_1 _ sz) h rfl rfl rfl rfl rfl rfl (Nat.le_of_ble_eq_true rfl) ⟨Nat.zero_le _, Nat.zero_le _⟩ (q0 := 0) rfl rfl (fun r_6 h => ?_)
    refine R_callS_i K d_Nodes_findItem 24 [] (As := [.int r_6]) (rest := []) (pc' := 48) v_Nodes_86 ⟨rfl, rfl, Nat.le_trans (Nat.le_of_ble_eq_true rfl) hR1, Nat.le_trans (Nat.le_of_ble_eq_true rfl) hR2⟩ (fun sz => met_Nodes_nameNode l D cI cJ cZ r_6 _ sz) h rfl rfl rfl rfl rfl rfl (Nat.le_of_ble_eq_true rfl) ⟨Nat.zero_le _, Nat.zero_le _⟩ (fun r_7 h => ?_)
    exact hend 25 _ _ _ rfl h
  · replace h := h.2 q
    refine A_aload_n K d_Nodes_findItem 7 0 (pc' := 13) rfl rfl rfl rfl ?_
    refine A_get K d_Nodes_findItem 8 0 fl_Nodes_31 (pc' := 16) rfl rfl rfl rfl ?_
    refine A_iload K d_Nodes_findItem 9 3 (pc' := 18) rfl rfl rfl ?_
    refine A_iald K d_Nodes_findItem 10 2 0 (pc' := 19) rfl rfl rfl rfl h.1 ?_
    replace h := h.2
    refine A_iload_n K d_Nodes_findItem 11 1 (pc' := 20) rfl rfl rfl rfl ?_
    refine A_icmp_ne K d_Nodes_findItem 12 33 (pc' := 23) rfl rfl rfl (fun q => ?_) (fun q => ?_)
    · replace h := h.1 q
      refine A_iinc K d_Nodes_findItem 18 3 (pc' := 36) (v := i4_2 + 1) (lv' := [(4, .int (i4_2 + 1)), (0, .ref a_t), (1, .int x1), (3, .int i3_1)]) rfl rfl rfl rfl (by decide) rfl ?_
      refine A_goto K d_Nodes_findItem 19 (pc' := 5) rfl rfl ?_
      refine A_lv [1, 2, 3, 0] rfl ?_
      exact ih_4 _ _ h
    · replace h := h.2 q
      refine A_iload_n K d_Nodes_findItem 13 2 (pc' := 24) rfl rfl rfl rfl ?_
      refine A_if_ne K d_Nodes_findItem 14 30 (pc' := 27) rfl rfl rfl (fun q => ?_) (fun q => ?_)
      · replace h := h.1 q
        refine A_iinc K d_Nodes_findItem 17 2 (pc' := 33) (v := i3_1 + (-1)) (lv' := [(3, .int (i3_1 + (-1))), (0, .ref a_t), (1, .int x1), (4, .int i4_2)]) rfl rfl rfl rfl (by decide) rfl ?_
        refine A_iinc K d_Nodes_findItem 18 3 (pc' := 36) (v := i4_2 + 1) (lv' := [(4, .int (i4_2 + 1)), (3, .int (i3_1 + (-1))), (0, .ref a_t), (1, .int x1)]) rfl rfl rfl rfl (by decide) rfl ?_
        refine A_goto K d_Nodes_findItem 19 (pc' := 5) rfl rfl ?_
        refine A_lv [2, 3, 1, 0] rfl ?_
        exact ih_4 _ _ h
      · replace h := h.2 q
        refine A_iload K d_Nodes_findItem 15 3 (pc' := 29) rfl rfl rfl ?_
        exact hend 16 _ _ _ rfl h
theorem met_Nodes_findItem (l : Launch) (D : va_G) (cI cJ cZ : ClassId) (a_t a_kindOf a_sizeOf a_above a_lesser a_greater a_inside a_ofEdge : Nat) (above : Nat → Int32) (ofEdge : Nat → Int32) (count : Int32) (x1 : Int32) (x2 : Int32) (post : Int32 → Prop) (sz : Nat) : Met l y_Nodes_findItem (Cond.code y_Nodes_findItem c_Nodes_findItem 5 (Option.some Jvm.ClassFile.FieldType.int) :: GW) { frames := 1, cells := 0, slots := 0, locals := 24 } (va_Pc [.ref a_t, .int x1, .int x2] (fun U => sk_P D (tyl cI cJ cZ) (w_Nodes_findItem cI cJ cZ a_t a_kindOf a_sizeOf a_above a_lesser a_greater a_inside a_ofEdge above ofEdge count) sz U ∧ wp_Nodes_findItem above ofEdge count x1 x2 post)) (va_Qi (fun (r : Int32) (_ : Unit) => post r) (fun _ t => sk_B D (tyl cI cJ cZ) (w_Nodes_findItem cI cJ cZ a_t a_kindOf a_sizeOf a_above a_lesser a_greater a_inside a_ofEdge above ofEdge count) (fun _ => True) t) (fun q => sz ≤ q)) 0 0 (fun q => sz ≤ q) :=
  sk_introR (by decide) (Nat.le_of_ble_eq_true rfl) (fun p e s m below meth c K hr _ h => bd_Nodes_findItem K (Nat.le_refl _) (Nat.le_refl _) (fun ti pc r  lv hd hp => A_iret K d_Nodes_findItem ti hr (post := (fun (r : Int32) (_ : Unit) => post r)) (wl := fun (_ : Unit) => w_Nodes_findItem cI cJ cZ a_t a_kindOf a_sizeOf a_above a_lesser a_greater a_inside a_ofEdge above ofEdge count) () hd hp) h)
/-! SkeletonTree$Nodes.tieThreefold(II)Z -/
def t_Nodes_tieThreefold : List (Nat × Instr × Nat) := [(0, .iconst 0, 1), (1, .istore_n 3, 1), (2, .iload_n 3, 1), (3, .aload_n 0, 1), (4, .getfield 34, 3), (7, .if_icmp .ge 47, 3), (10, .aload_n 0, 1), (11, .getfield 9, 3), (14, .iload_n 3, 1), (15, .iaload, 1), (16, .iconst 1, 1), (17, .if_icmp .eq 31, 3), (20, .aload_n 0, 1), (21, .getfield 27, 3), (24, .iload_n 3, 1), (25, .laload, 1), (26, .iload_n 1, 1), (27, .invokestatic 90, 3), (30, .ifCond .eq 18, 3), (33, .aload_n 0, 1), (34, .getfield 27, 3), (37, .iload_n 3, 1), (38, .laload, 1), (39, .iload_n 2, 1), (40, .invokestatic 90, 3), (43, .ifCond .eq 5, 3), (46, .iconst 1, 1), (47, .ireturn, 1), (48, .iinc 3 1, 3), (51, .goto (-49), 3), (54, .iconst 0, 1), (55, .ireturn, 1)]
set_option maxRecDepth 100000 in
theorem d_Nodes_tieThreefold : sk_T c_Nodes_tieThreefold t_Nodes_tieThreefold := by unfold sk_T t_Nodes_tieThreefold; decide +kernel
def w_Nodes_tieThreefold (cI cJ cZ : ClassId) (a_t a_kindOf a_sizeOf a_above a_lesser a_greater a_inside a_ofEdge : Nat) (kindOf : Nat → Int32) (inside : Nat → Int64) (count : Int32) : va_W := [(a_t, .inr (1, [.ref a_kindOf, .ref a_sizeOf, .ref a_above, .ref a_lesser, .ref a_greater, .ref a_inside, .ref a_ofEdge, .int count])), (a_kindOf, .inl (cI, 98, .inl kindOf)), (a_inside, .inl (cJ, 98, .inr (.inl inside)))]
def wp_Nodes_tieThreefold  (kindOf : Nat → Int32) (inside : Nat → Int64) (count : Int32) (x1 : Int32) (x2 : Int32) (post : Int32 → Prop) : Prop :=
  ∃ n, sL1 (fun (K_2 : Int32 → Prop) (i3_1 : Int32) => (count ≤ i3_1 → post 0 ) ∧ (¬ count ≤ i3_1 → vp_in i3_1 98 ∧ ((kindOf (ix i3_1)) = 1 → K_2 (i3_1 + 1)) ∧ (¬ (kindOf (ix i3_1)) = 1 → vp_in i3_1 98 ∧ wp_Tree_holds (inside (ix i3_1)) x1 (fun r_5 => (r_5 = 0 → K_2 (i3_1 + 1)) ∧ (¬ r_5 = 0 → vp_in i3_1 98 ∧ wp_Tree_holds (inside (ix i3_1)) x2 (fun r_6 => (r_6 = 0 → K_2 (i3_1 + 1)) ∧ (¬ r_6 = 0 → post 1 ))))))) n 0
set_option maxHeartbeats 4000000 in
set_option maxRecDepth 100000 in
theorem bd_Nodes_tieThreefold {p : Program} {l : Launch} {e : Env} {R : Room} {s : State} {m : MethodId} {args : Array Value} {below : List Frame} {meth : Method} {c : Code} {D : va_G} {A B : Nat → Prop} {Q : State → Prop} {cI cJ cZ : ClassId} {a_t a_kindOf a_sizeOf a_above a_lesser a_greater a_inside a_ofEdge : Nat} {kindOf : Nat → Int32} {inside : Nat → Int64} {count : Int32} {x1 : Int32} {x2 : Int32} (K : sk_C p s m args meth c c_Nodes_tieThreefold 4 "SkeletonTree$Nodes" D (tyl cI cJ cZ)) (hR1 : 2 ≤ R.frames) (hR2 : 42 ≤ R.locals) {post : Int32 → Prop} (hend : ∀ (ti pc : Nat) (r : Int32)  (lv : List (Nat × Value)), t_Nodes_tieThreefold[ti]? = some (pc, .ireturn, 1) → sk_b r → post r  → AW p l e R s m args below meth c D A B 4 Q 0 0 (w_Nodes_tieThreefold cI cJ cZ a_t a_kindOf a_sizeOf a_above a_lesser a_greater a_inside a_ofEdge kindOf inside count) lv pc [.int r]) (h : wp_Nodes_tieThreefold kindOf inside count x1 x2 post) : AW p l e R s m args below meth c D A B 4 Q 0 0 (w_Nodes_tieThreefold cI cJ cZ a_t a_kindOf a_sizeOf a_above a_lesser a_greater a_inside a_ofEdge kindOf inside count) [(0, .ref a_t), (1, .int x1), (2, .int x2)] 0 [] := by
  unfold wp_Nodes_tieThreefold at h
  refine A_iconst K d_Nodes_tieThreefold 0 (pc' := 1) (v := 0) rfl rfl (by decide) ?_
  refine A_istore_n K d_Nodes_tieThreefold 1 (pc' := 2) (lv' := [(3, .int 0), (0, .ref a_t), (1, .int x1), (2, .int x2)]) rfl rfl rfl (by decide) rfl ?_
  refine A_lv [1, 2, 3, 0] rfl ?_
  obtain ⟨n_4, h⟩ := h
  refine sL1_ind (fun (i3_1 : Int32) => AW p l e R s m args below meth c D A B 4 Q 0 0 (w_Nodes_tieThreefold cI cJ cZ a_t a_kindOf a_sizeOf a_above a_lesser a_greater a_inside a_ofEdge kindOf inside count) [(0, .ref a_t), (1, .int x1), (2, .int x2), (3, .int i3_1)] 2 []) ?_ n_4 _ h
  intro K_2 ih_3 i3_1 h
  refine A_iload_n K d_Nodes_tieThreefold 2 3 (pc' := 3) rfl rfl rfl rfl ?_
  refine A_aload_n K d_Nodes_tieThreefold 3 0 (pc' := 4) rfl rfl rfl rfl ?_
  refine A_get K d_Nodes_tieThreefold 4 0 fl_Nodes_34 (pc' := 7) rfl rfl rfl rfl ?_
  refine A_icmp_ge K d_Nodes_tieThreefold 5 54 (pc' := 10) rfl rfl rfl (fun q => ?_) (fun q => ?_)
  · replace h := h.1 q
    refine A_iconst K d_Nodes_tieThreefold 30 (pc' := 55) (v := 0) rfl rfl (by decide) ?_
    exact hend 31 _ _ _ rfl (Or.inl rfl) h
  · replace h := h.2 q
    refine A_aload_n K d_Nodes_tieThreefold 6 0 (pc' := 11) rfl rfl rfl rfl ?_
    refine A_get K d_Nodes_tieThreefold 7 0 fl_Nodes_9 (pc' := 14) rfl rfl rfl rfl ?_
    refine A_iload_n K d_Nodes_tieThreefold 8 3 (pc' := 15) rfl rfl rfl rfl ?_
    refine A_iald K d_Nodes_tieThreefold 9 1 0 (pc' := 16) rfl rfl rfl rfl h.1 ?_
    replace h := h.2
    refine A_iconst K d_Nodes_tieThreefold 10 (pc' := 17) (v := 1) rfl rfl (by decide) ?_
    refine A_icmp_eq K d_Nodes_tieThreefold 11 48 (pc' := 20) rfl rfl rfl (fun q => ?_) (fun q => ?_)
    · replace h := h.1 q
      refine A_iinc K d_Nodes_tieThreefold 28 3 (pc' := 51) (v := i3_1 + 1) (lv' := [(3, .int (i3_1 + 1)), (0, .ref a_t), (1, .int x1), (2, .int x2)]) rfl rfl rfl rfl (by decide) rfl ?_
      refine A_goto K d_Nodes_tieThreefold 29 (pc' := 2) rfl rfl ?_
      refine A_lv [1, 2, 3, 0] rfl ?_
      exact ih_3 _ h
    · replace h := h.2 q
      refine A_aload_n K d_Nodes_tieThreefold 12 0 (pc' := 21) rfl rfl rfl rfl ?_
      refine A_get K d_Nodes_tieThreefold 13 0 fl_Nodes_27 (pc' := 24) rfl rfl rfl rfl ?_
      refine A_iload_n K d_Nodes_tieThreefold 14 3 (pc' := 25) rfl rfl rfl rfl ?_
      refine A_lald K d_Nodes_tieThreefold 15 2 1 (pc' := 26) rfl rfl rfl rfl h.1 ?_
      replace h := h.2
      refine A_iload_n K d_Nodes_tieThreefold 16 1 (pc' := 27) rfl rfl rfl rfl ?_
      refine R_callSN_i K d_Nodes_tieThreefold 17 [] (As := [.long (inside (ix i3_1)), .int x1]) (rest := []) (pc' := 30) v_Nodes_90 ⟨rfl, rfl, Nat.le_trans (Nat.le_of_ble_eq_true rfl) hR1, Nat.le_trans (Nat.le_of_ble_eq_true rfl) hR2⟩ (fun sz => met_Tree_holds l D cI cJ cZ (inside (ix i3_1)) x1 _ sz) h rfl rfl rfl rfl rfl rfl (Nat.le_of_ble_eq_true rfl) ⟨Nat.zero_le _, Nat.zero_le _⟩ (fun r_5 h => ?_)
      refine A_if_eq K d_Nodes_tieThreefold 18 48 (pc' := 33) rfl rfl rfl (fun q => ?_) (fun q => ?_)
      · replace h := h.1 q
        refine A_iinc K d_Nodes_tieThreefold 28 3 (pc' := 51) (v := i3_1 + 1) (lv' := [(3, .int (i3_1 + 1)), (0, .ref a_t), (1, .int x1), (2, .int x2)]) rfl rfl rfl rfl (by decide) rfl ?_
        refine A_goto K d_Nodes_tieThreefold 29 (pc' := 2) rfl rfl ?_
        refine A_lv [1, 2, 3, 0] rfl ?_
        exact ih_3 _ h
      · replace h := h.2 q
        refine A_aload_n K d_Nodes_tieThreefold 19 0 (pc' := 34) rfl rfl rfl rfl ?_
        refine A_get K d_Nodes_tieThreefold 20 0 fl_Nodes_27 (pc' := 37) rfl rfl rfl rfl ?_
        refine A_iload_n K d_Nodes_tieThreefold 21 3 (pc' := 38) rfl rfl rfl rfl ?_
        refine A_lald K d_Nodes_tieThreefold 22 2 1 (pc' := 39) rfl rfl rfl rfl h.1 ?_
        replace h := h.2
        refine A_iload_n K d_Nodes_tieThreefold 23 2 (pc' := 40) rfl rfl rfl rfl ?_
        refine R_callSN_i K d_Nodes_tieThreefold 24 [] (As := [.long (inside (ix i3_1)), .int x2]) (rest := []) (pc' := 43) v_Nodes_90 ⟨rfl, rfl, Nat.le_trans (Nat.le_of_ble_eq_true rfl) hR1, Nat.le_trans (Nat.le_of_ble_eq_true rfl) hR2⟩ (fun sz => met_Tree_holds l D cI cJ cZ (inside (ix i3_1)) x2 _ sz) h rfl rfl rfl rfl rfl rfl (Nat.le_of_ble_eq_true rfl) ⟨Nat.zero_le _, Nat.zero_le _⟩ (fun r_6 h => ?_)
        refine A_if_eq K d_Nodes_tieThreefold 25 48 (pc' := 46) rfl rfl rfl (fun q => ?_) (fun q => ?_)
        · replace h := h.1 q
          refine A_iinc K d_Nodes_tieThreefold 28 3 (pc' := 51) (v := i3_1 + 1) (lv' := [(3, .int (i3_1 + 1)), (0, .ref a_t), (1, .int x1), (2, .int x2)]) rfl rfl rfl rfl (by decide) rfl ?_
          refine A_goto K d_Nodes_tieThreefold 29 (pc' := 2) rfl rfl ?_
          refine A_lv [1, 2, 3, 0] rfl ?_
          exact ih_3 _ h
        · replace h := h.2 q
          refine A_iconst K d_Nodes_tieThreefold 26 (pc' := 47) (v := 1) rfl rfl (by decide) ?_
          exact hend 27 _ _ _ rfl (Or.inr rfl) h
theorem met_Nodes_tieThreefold (l : Launch) (D : va_G) (cI cJ cZ : ClassId) (a_t a_kindOf a_sizeOf a_above a_lesser a_greater a_inside a_ofEdge : Nat) (kindOf : Nat → Int32) (inside : Nat → Int64) (count : Int32) (x1 : Int32) (x2 : Int32) (post : Int32 → Prop) (sz : Nat) : Met l y_Nodes_tieThreefold (Cond.code y_Nodes_tieThreefold c_Nodes_tieThreefold 4 (Option.some Jvm.ClassFile.FieldType.boolean) :: GW) { frames := 2, cells := 0, slots := 0, locals := 42 } (va_Pc [.ref a_t, .int x1, .int x2] (fun U => sk_P D (tyl cI cJ cZ) (w_Nodes_tieThreefold cI cJ cZ a_t a_kindOf a_sizeOf a_above a_lesser a_greater a_inside a_ofEdge kindOf inside count) sz U ∧ wp_Nodes_tieThreefold kindOf inside count x1 x2 post)) (va_Qi (fun (r : Int32) (_ : Unit) => post r) (fun _ t => sk_B D (tyl cI cJ cZ) (w_Nodes_tieThreefold cI cJ cZ a_t a_kindOf a_sizeOf a_above a_lesser a_greater a_inside a_ofEdge kindOf inside count) (fun _ => True) t) (fun q => sz ≤ q)) 0 0 (fun q => sz ≤ q) :=
  sk_introR (by decide) (Nat.le_of_ble_eq_true rfl) (fun p e s m below meth c K hr _ h => bd_Nodes_tieThreefold K (Nat.le_refl _) (Nat.le_refl _) (fun ti pc r  lv hd hb hp => A_zret K d_Nodes_tieThreefold ti hr (post := (fun (r : Int32) (_ : Unit) => post r)) (wl := fun (_ : Unit) => w_Nodes_tieThreefold cI cJ cZ a_t a_kindOf a_sizeOf a_above a_lesser a_greater a_inside a_ofEdge kindOf inside count) () hd hb hp) h)
