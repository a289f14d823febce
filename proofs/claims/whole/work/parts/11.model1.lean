abbrev c_Model_thrown : ByteArray := prog_7_method_2_code
abbrev y_Model_thrown : MethodName := { cls := "SkeletonTreeModel", name := "thrown", desc := "()I" }
abbrev c_Model_refused : ByteArray := prog_7_method_3_code
abbrev y_Model_refused : MethodName := { cls := "SkeletonTreeModel", name := "refused", desc := "(ZZ)Z" }
abbrev c_Model_isPoint : ByteArray := prog_7_method_4_code
abbrev y_Model_isPoint : MethodName := { cls := "SkeletonTreeModel", name := "isPoint", desc := "(I)Z" }
abbrev c_Model_edge : ByteArray := prog_7_method_5_code
abbrev y_Model_edge : MethodName := { cls := "SkeletonTreeModel", name := "edge", desc := "(II)I" }
abbrev c_Model_isEdge : ByteArray := prog_7_method_6_code
abbrev y_Model_isEdge : MethodName := { cls := "SkeletonTreeModel", name := "isEdge", desc := "(I)Z" }
abbrev c_Model_drop : ByteArray := prog_7_method_7_code
abbrev y_Model_drop : MethodName := { cls := "SkeletonTreeModel", name := "drop", desc := "(I)V" }
abbrev c_Model_edges : ByteArray := prog_7_method_8_code
abbrev y_Model_edges : MethodName := { cls := "SkeletonTreeModel", name := "edges", desc := "()I" }
abbrev c_Model_isUsed : ByteArray := prog_7_method_9_code
abbrev y_Model_isUsed : MethodName := { cls := "SkeletonTreeModel", name := "isUsed", desc := "(I)Z" }
abbrev c_Model_same : ByteArray := prog_7_method_11_code
abbrev y_Model_same : MethodName := { cls := "SkeletonTreeModel", name := "same", desc := "(II)V" }
abbrev c_Model_join : ByteArray := prog_7_method_10_code
abbrev y_Model_join : MethodName := { cls := "SkeletonTreeModel", name := "join", desc := "(II)V" }
abbrev c_Model_isOne : ByteArray := prog_7_method_12_code
abbrev y_Model_isOne : MethodName := { cls := "SkeletonTreeModel", name := "isOne", desc := "(I)Z" }
abbrev c_Model_isFit : ByteArray := prog_7_method_13_code
abbrev y_Model_isFit : MethodName := { cls := "SkeletonTreeModel", name := "isFit", desc := "()Z" }
abbrev c_Model_add : ByteArray := prog_7_method_14_code
abbrev y_Model_add : MethodName := { cls := "SkeletonTreeModel", name := "add", desc := "(IIII)V" }
abbrev c_Model_touches : ByteArray := prog_7_method_15_code
abbrev y_Model_touches : MethodName := { cls := "SkeletonTreeModel", name := "touches", desc := "(II)Z" }
abbrev c_Model_isBetween : ByteArray := prog_7_method_16_code
abbrev y_Model_isBetween : MethodName := { cls := "SkeletonTreeModel", name := "isBetween", desc := "(III)Z" }
abbrev c_Model_groupOf : ByteArray := prog_7_method_17_code
abbrev y_Model_groupOf : MethodName := { cls := "SkeletonTreeModel", name := "groupOf", desc := "(III)I" }
abbrev c_Model_look : ByteArray := prog_7_method_18_code
abbrev y_Model_look : MethodName := { cls := "SkeletonTreeModel", name := "look", desc := "(III)I" }
abbrev c_Model_sizeOf : ByteArray := prog_7_method_19_code
abbrev y_Model_sizeOf : MethodName := { cls := "SkeletonTreeModel", name := "sizeOf", desc := "(I)I" }
abbrev c_Model_partOf : ByteArray := prog_7_method_20_code
abbrev y_Model_partOf : MethodName := { cls := "SkeletonTreeModel", name := "partOf", desc := "(III)I" }
abbrev c_Model_hasPoint : ByteArray := prog_7_method_21_code
abbrev y_Model_hasPoint : MethodName := { cls := "SkeletonTreeModel", name := "hasPoint", desc := "(II)Z" }
theorem g_614 : (Jvm.Cond.fieldLink "SkeletonTreeModel" (63 : Nat) "SkeletonTreeModel" "thrown" "I") ∈ GW := gw_of 614 (by decide +kernel) (by decide +kernel)
theorem g_694 : (Jvm.Cond.code ({ cls := "SkeletonTreeModel", name := "isPoint", desc := "(I)Z" } : Jvm.MethodName) prog_7_method_4_code (1 : Nat) (Option.some Jvm.ClassFile.FieldType.boolean)) ∈ GW := gw_of 694 (by decide +kernel) (by decide +kernel)
theorem g_692 : (Jvm.Cond.methodLink "SkeletonTreeModel" (66 : Nat) ({ cls := "SkeletonTreeModel", name := "isPoint", desc := "(I)Z" } : Jvm.MethodName)) ∈ GW := gw_of 692 (by decide +kernel) (by decide +kernel)
theorem g_52 : (Jvm.Cond.initialized "SkeletonTreeModel") ∈ GW := gw_of 52 (by decide +kernel) (by decide +kernel)
theorem g_693 : (Jvm.Cond.static ({ cls := "SkeletonTreeModel", name := "isPoint", desc := "(I)Z" } : Jvm.MethodName)) ∈ GW := gw_of 693 (by decide +kernel) (by decide +kernel)
theorem g_615 : (Jvm.Cond.fieldLink "SkeletonTreeModel" (59 : Nat) "SkeletonTreeModel" "made" "I") ∈ GW := gw_of 615 (by decide +kernel) (by decide +kernel)
theorem g_698 : (Jvm.Cond.code ({ cls := "SkeletonTreeModel", name := "refused", desc := "(ZZ)Z" } : Jvm.MethodName) prog_7_method_3_code (3 : Nat) (Option.some Jvm.ClassFile.FieldType.boolean)) ∈ GW := gw_of 698 (by decide +kernel) (by decide +kernel)
theorem g_695 : (Jvm.Cond.methodLink "SkeletonTreeModel" (70 : Nat) ({ cls := "SkeletonTreeModel", name := "refused", desc := "(ZZ)Z" } : Jvm.MethodName)) ∈ GW := gw_of 695 (by decide +kernel) (by decide +kernel)
theorem g_697 : (Jvm.Cond.instanceMethod ({ cls := "SkeletonTreeModel", name := "refused", desc := "(ZZ)Z" } : Jvm.MethodName)) ∈ GW := gw_of 697 (by decide +kernel) (by decide +kernel)
theorem g_19 : (Jvm.Cond.selects "SkeletonTreeModel" ({ cls := "SkeletonTreeModel", name := "refused", desc := "(ZZ)Z" } : Jvm.MethodName) ({ cls := "SkeletonTreeModel", name := "refused", desc := "(ZZ)Z" } : Jvm.MethodName)) ∈ GW := gw_of 19 (by decide +kernel) (by decide +kernel)
theorem g_616 : (Jvm.Cond.fieldLink "SkeletonTreeModel" (7 : Nat) "SkeletonTreeModel" "ends" "[I") ∈ GW := gw_of 616 (by decide +kernel) (by decide +kernel)
theorem g_617 : (Jvm.Cond.fieldLink "SkeletonTreeModel" (13 : Nat) "SkeletonTreeModel" "there" "[Z") ∈ GW := gw_of 617 (by decide +kernel) (by decide +kernel)
theorem g_618 : (Jvm.Cond.fieldLink "SkeletonTreeModel" (74 : Nat) "SkeletonTreeModel" "tree" "Z") ∈ GW := gw_of 618 (by decide +kernel) (by decide +kernel)
theorem g_706 : (Jvm.Cond.code ({ cls := "SkeletonTreeModel", name := "isEdge", desc := "(I)Z" } : Jvm.MethodName) prog_7_method_6_code (2 : Nat) (Option.some Jvm.ClassFile.FieldType.boolean)) ∈ GW := gw_of 706 (by decide +kernel) (by decide +kernel)
theorem g_703 : (Jvm.Cond.methodLink "SkeletonTreeModel" (78 : Nat) ({ cls := "SkeletonTreeModel", name := "isEdge", desc := "(I)Z" } : Jvm.MethodName)) ∈ GW := gw_of 703 (by decide +kernel) (by decide +kernel)
theorem g_705 : (Jvm.Cond.instanceMethod ({ cls := "SkeletonTreeModel", name := "isEdge", desc := "(I)Z" } : Jvm.MethodName)) ∈ GW := gw_of 705 (by decide +kernel) (by decide +kernel)
theorem g_20 : (Jvm.Cond.selects "SkeletonTreeModel" ({ cls := "SkeletonTreeModel", name := "isEdge", desc := "(I)Z" } : Jvm.MethodName) ({ cls := "SkeletonTreeModel", name := "isEdge", desc := "(I)Z" } : Jvm.MethodName)) ∈ GW := gw_of 20 (by decide +kernel) (by decide +kernel)
theorem g_627 : (Jvm.Cond.fieldLink "SkeletonTreeModel" (32 : Nat) "SkeletonTreeModel" "group" "[I") ∈ GW := gw_of 627 (by decide +kernel) (by decide +kernel)
theorem g_731 : (Jvm.Cond.code ({ cls := "SkeletonTreeModel", name := "same", desc := "(II)V" } : Jvm.MethodName) prog_7_method_11_code (6 : Nat) (Option.none : Option Jvm.ClassFile.FieldType)) ∈ GW := gw_of 731 (by decide +kernel) (by decide +kernel)
theorem g_728 : (Jvm.Cond.methodLink "SkeletonTreeModel" (81 : Nat) ({ cls := "SkeletonTreeModel", name := "same", desc := "(II)V" } : Jvm.MethodName)) ∈ GW := gw_of 728 (by decide +kernel) (by decide +kernel)
theorem g_730 : (Jvm.Cond.instanceMethod ({ cls := "SkeletonTreeModel", name := "same", desc := "(II)V" } : Jvm.MethodName)) ∈ GW := gw_of 730 (by decide +kernel) (by decide +kernel)
theorem g_24 : (Jvm.Cond.selects "SkeletonTreeModel" ({ cls := "SkeletonTreeModel", name := "same", desc := "(II)V" } : Jvm.MethodName) ({ cls := "SkeletonTreeModel", name := "same", desc := "(II)V" } : Jvm.MethodName)) ∈ GW := gw_of 24 (by decide +kernel) (by decide +kernel)
theorem g_727 : (Jvm.Cond.code ({ cls := "SkeletonTreeModel", name := "join", desc := "(II)V" } : Jvm.MethodName) prog_7_method_10_code (6 : Nat) (Option.none : Option Jvm.ClassFile.FieldType)) ∈ GW := gw_of 727 (by decide +kernel) (by decide +kernel)
theorem g_724 : (Jvm.Cond.methodLink "SkeletonTreeModel" (85 : Nat) ({ cls := "SkeletonTreeModel", name := "join", desc := "(II)V" } : Jvm.MethodName)) ∈ GW := gw_of 724 (by decide +kernel) (by decide +kernel)
theorem g_726 : (Jvm.Cond.instanceMethod ({ cls := "SkeletonTreeModel", name := "join", desc := "(II)V" } : Jvm.MethodName)) ∈ GW := gw_of 726 (by decide +kernel) (by decide +kernel)
theorem g_23 : (Jvm.Cond.selects "SkeletonTreeModel" ({ cls := "SkeletonTreeModel", name := "join", desc := "(II)V" } : Jvm.MethodName) ({ cls := "SkeletonTreeModel", name := "join", desc := "(II)V" } : Jvm.MethodName)) ∈ GW := gw_of 23 (by decide +kernel) (by decide +kernel)
theorem g_735 : (Jvm.Cond.code ({ cls := "SkeletonTreeModel", name := "isUsed", desc := "(I)Z" } : Jvm.MethodName) prog_7_method_9_code (3 : Nat) (Option.some Jvm.ClassFile.FieldType.boolean)) ∈ GW := gw_of 735 (by decide +kernel) (by decide +kernel)
theorem g_732 : (Jvm.Cond.methodLink "SkeletonTreeModel" (88 : Nat) ({ cls := "SkeletonTreeModel", name := "isUsed", desc := "(I)Z" } : Jvm.MethodName)) ∈ GW := gw_of 732 (by decide +kernel) (by decide +kernel)
theorem g_734 : (Jvm.Cond.instanceMethod ({ cls := "SkeletonTreeModel", name := "isUsed", desc := "(I)Z" } : Jvm.MethodName)) ∈ GW := gw_of 734 (by decide +kernel) (by decide +kernel)
theorem g_25 : (Jvm.Cond.selects "SkeletonTreeModel" ({ cls := "SkeletonTreeModel", name := "isUsed", desc := "(I)Z" } : Jvm.MethodName) ({ cls := "SkeletonTreeModel", name := "isUsed", desc := "(I)Z" } : Jvm.MethodName)) ∈ GW := gw_of 25 (by decide +kernel) (by decide +kernel)
theorem g_710 : (Jvm.Cond.code ({ cls := "SkeletonTreeModel", name := "edges", desc := "()I" } : Jvm.MethodName) prog_7_method_8_code (3 : Nat) (Option.some Jvm.ClassFile.FieldType.int)) ∈ GW := gw_of 710 (by decide +kernel) (by decide +kernel)
theorem g_719 : (Jvm.Cond.methodLink "SkeletonTreeModel" (91 : Nat) ({ cls := "SkeletonTreeModel", name := "edges", desc := "()I" } : Jvm.MethodName)) ∈ GW := gw_of 719 (by decide +kernel) (by decide +kernel)
theorem g_708 : (Jvm.Cond.instanceMethod ({ cls := "SkeletonTreeModel", name := "edges", desc := "()I" } : Jvm.MethodName)) ∈ GW := gw_of 708 (by decide +kernel) (by decide +kernel)
theorem g_709 : (Jvm.Cond.selects "SkeletonTreeModel" ({ cls := "SkeletonTreeModel", name := "edges", desc := "()I" } : Jvm.MethodName) ({ cls := "SkeletonTreeModel", name := "edges", desc := "()I" } : Jvm.MethodName)) ∈ GW := gw_of 709 (by decide +kernel) (by decide +kernel)
theorem g_723 : (Jvm.Cond.code ({ cls := "SkeletonTreeModel", name := "isOne", desc := "(I)Z" } : Jvm.MethodName) prog_7_method_12_code (4 : Nat) (Option.some Jvm.ClassFile.FieldType.boolean)) ∈ GW := gw_of 723 (by decide +kernel) (by decide +kernel)
theorem g_720 : (Jvm.Cond.methodLink "SkeletonTreeModel" (95 : Nat) ({ cls := "SkeletonTreeModel", name := "isOne", desc := "(I)Z" } : Jvm.MethodName)) ∈ GW := gw_of 720 (by decide +kernel) (by decide +kernel)
theorem g_722 : (Jvm.Cond.instanceMethod ({ cls := "SkeletonTreeModel", name := "isOne", desc := "(I)Z" } : Jvm.MethodName)) ∈ GW := gw_of 722 (by decide +kernel) (by decide +kernel)
theorem g_22 : (Jvm.Cond.selects "SkeletonTreeModel" ({ cls := "SkeletonTreeModel", name := "isOne", desc := "(I)Z" } : Jvm.MethodName) ({ cls := "SkeletonTreeModel", name := "isOne", desc := "(I)Z" } : Jvm.MethodName)) ∈ GW := gw_of 22 (by decide +kernel) (by decide +kernel)
theorem g_620 : (Jvm.Cond.fieldLink "SkeletonTreeModel" (17 : Nat) "SkeletonTreeModel" "one" "[I") ∈ GW := gw_of 620 (by decide +kernel) (by decide +kernel)
theorem g_619 : (Jvm.Cond.fieldLink "SkeletonTreeModel" (98 : Nat) "SkeletonTreeModel" "items" "I") ∈ GW := gw_of 619 (by decide +kernel) (by decide +kernel)
theorem g_621 : (Jvm.Cond.fieldLink "SkeletonTreeModel" (20 : Nat) "SkeletonTreeModel" "two" "[I") ∈ GW := gw_of 621 (by decide +kernel) (by decide +kernel)
theorem g_622 : (Jvm.Cond.fieldLink "SkeletonTreeModel" (23 : Nat) "SkeletonTreeModel" "what" "[I") ∈ GW := gw_of 622 (by decide +kernel) (by decide +kernel)
theorem g_623 : (Jvm.Cond.fieldLink "SkeletonTreeModel" (26 : Nat) "SkeletonTreeModel" "piece" "[I") ∈ GW := gw_of 623 (by decide +kernel) (by decide +kernel)
theorem g_751 : (Jvm.Cond.code ({ cls := "SkeletonTreeModel", name := "touches", desc := "(II)Z" } : Jvm.MethodName) prog_7_method_15_code (3 : Nat) (Option.some Jvm.ClassFile.FieldType.boolean)) ∈ GW := gw_of 751 (by decide +kernel) (by decide +kernel)
theorem g_748 : (Jvm.Cond.methodLink "SkeletonTreeModel" (101 : Nat) ({ cls := "SkeletonTreeModel", name := "touches", desc := "(II)Z" } : Jvm.MethodName)) ∈ GW := gw_of 748 (by decide +kernel) (by decide +kernel)
theorem g_750 : (Jvm.Cond.instanceMethod ({ cls := "SkeletonTreeModel", name := "touches", desc := "(II)Z" } : Jvm.MethodName)) ∈ GW := gw_of 750 (by decide +kernel) (by decide +kernel)
theorem g_29 : (Jvm.Cond.selects "SkeletonTreeModel" ({ cls := "SkeletonTreeModel", name := "touches", desc := "(II)Z" } : Jvm.MethodName) ({ cls := "SkeletonTreeModel", name := "touches", desc := "(II)Z" } : Jvm.MethodName)) ∈ GW := gw_of 29 (by decide +kernel) (by decide +kernel)
theorem g_767 : (Jvm.Cond.code ({ cls := "SkeletonTreeModel", name := "isBetween", desc := "(III)Z" } : Jvm.MethodName) prog_7_method_16_code (4 : Nat) (Option.some Jvm.ClassFile.FieldType.boolean)) ∈ GW := gw_of 767 (by decide +kernel) (by decide +kernel)
theorem g_764 : (Jvm.Cond.methodLink "SkeletonTreeModel" (105 : Nat) ({ cls := "SkeletonTreeModel", name := "isBetween", desc := "(III)Z" } : Jvm.MethodName)) ∈ GW := gw_of 764 (by decide +kernel) (by decide +kernel)
theorem g_766 : (Jvm.Cond.instanceMethod ({ cls := "SkeletonTreeModel", name := "isBetween", desc := "(III)Z" } : Jvm.MethodName)) ∈ GW := gw_of 766 (by decide +kernel) (by decide +kernel)
theorem g_33 : (Jvm.Cond.selects "SkeletonTreeModel" ({ cls := "SkeletonTreeModel", name := "isBetween", desc := "(III)Z" } : Jvm.MethodName) ({ cls := "SkeletonTreeModel", name := "isBetween", desc := "(III)Z" } : Jvm.MethodName)) ∈ GW := gw_of 33 (by decide +kernel) (by decide +kernel)
theorem g_628 : (Jvm.Cond.fieldLink "SkeletonTreeModel" (35 : Nat) "SkeletonTreeModel" "many" "[I") ∈ GW := gw_of 628 (by decide +kernel) (by decide +kernel)
theorem g_763 : (Jvm.Cond.code ({ cls := "SkeletonTreeModel", name := "groupOf", desc := "(III)I" } : Jvm.MethodName) prog_7_method_17_code (4 : Nat) (Option.some Jvm.ClassFile.FieldType.int)) ∈ GW := gw_of 763 (by decide +kernel) (by decide +kernel)
theorem g_760 : (Jvm.Cond.methodLink "SkeletonTreeModel" (109 : Nat) ({ cls := "SkeletonTreeModel", name := "groupOf", desc := "(III)I" } : Jvm.MethodName)) ∈ GW := gw_of 760 (by decide +kernel) (by decide +kernel)
theorem g_762 : (Jvm.Cond.instanceMethod ({ cls := "SkeletonTreeModel", name := "groupOf", desc := "(III)I" } : Jvm.MethodName)) ∈ GW := gw_of 762 (by decide +kernel) (by decide +kernel)
theorem g_32 : (Jvm.Cond.selects "SkeletonTreeModel" ({ cls := "SkeletonTreeModel", name := "groupOf", desc := "(III)I" } : Jvm.MethodName) ({ cls := "SkeletonTreeModel", name := "groupOf", desc := "(III)I" } : Jvm.MethodName)) ∈ GW := gw_of 32 (by decide +kernel) (by decide +kernel)
theorem g_759 : (Jvm.Cond.code ({ cls := "SkeletonTreeModel", name := "look", desc := "(III)I" } : Jvm.MethodName) prog_7_method_18_code (7 : Nat) (Option.some Jvm.ClassFile.FieldType.int)) ∈ GW := gw_of 759 (by decide +kernel) (by decide +kernel)
theorem g_756 : (Jvm.Cond.methodLink "SkeletonTreeModel" (113 : Nat) ({ cls := "SkeletonTreeModel", name := "look", desc := "(III)I" } : Jvm.MethodName)) ∈ GW := gw_of 756 (by decide +kernel) (by decide +kernel)
theorem g_758 : (Jvm.Cond.instanceMethod ({ cls := "SkeletonTreeModel", name := "look", desc := "(III)I" } : Jvm.MethodName)) ∈ GW := gw_of 758 (by decide +kernel) (by decide +kernel)
theorem g_31 : (Jvm.Cond.selects "SkeletonTreeModel" ({ cls := "SkeletonTreeModel", name := "look", desc := "(III)I" } : Jvm.MethodName) ({ cls := "SkeletonTreeModel", name := "look", desc := "(III)I" } : Jvm.MethodName)) ∈ GW := gw_of 31 (by decide +kernel) (by decide +kernel)
theorem g_771 : (Jvm.Cond.code ({ cls := "SkeletonTreeModel", name := "sizeOf", desc := "(I)I" } : Jvm.MethodName) prog_7_method_19_code (4 : Nat) (Option.some Jvm.ClassFile.FieldType.int)) ∈ GW := gw_of 771 (by decide +kernel) (by decide +kernel)
theorem g_768 : (Jvm.Cond.methodLink "SkeletonTreeModel" (116 : Nat) ({ cls := "SkeletonTreeModel", name := "sizeOf", desc := "(I)I" } : Jvm.MethodName)) ∈ GW := gw_of 768 (by decide +kernel) (by decide +kernel)
theorem g_770 : (Jvm.Cond.instanceMethod ({ cls := "SkeletonTreeModel", name := "sizeOf", desc := "(I)I" } : Jvm.MethodName)) ∈ GW := gw_of 770 (by decide +kernel) (by decide +kernel)
theorem g_34 : (Jvm.Cond.selects "SkeletonTreeModel" ({ cls := "SkeletonTreeModel", name := "sizeOf", desc := "(I)I" } : Jvm.MethodName) ({ cls := "SkeletonTreeModel", name := "sizeOf", desc := "(I)I" } : Jvm.MethodName)) ∈ GW := gw_of 34 (by decide +kernel) (by decide +kernel)
theorem fl_Model_63 : sk_Fl "SkeletonTreeModel" 63 5 0 := ⟨_, _, _, rfl, in_Model, by decide, g_614⟩
theorem fp_Model_63 : sk_Fp "SkeletonTreeModel" 63 5 0 .int := ⟨_, _, _, t_Model, rfl, in_Model, by decide, g_614, ty_Model, nm_Model, rfl, by decide +kernel⟩
theorem fl_Model_59 : sk_Fl "SkeletonTreeModel" 59 5 1 := ⟨_, _, _, rfl, in_Model, by decide, g_615⟩
theorem fl_Model_7 : sk_Fl "SkeletonTreeModel" 7 5 2 := ⟨_, _, _, rfl, in_Model, by decide, g_616⟩
theorem fl_Model_13 : sk_Fl "SkeletonTreeModel" 13 5 3 := ⟨_, _, _, rfl, in_Model, by decide, g_617⟩
theorem fp_Model_59 : sk_Fp "SkeletonTreeModel" 59 5 1 .int := ⟨_, _, _, t_Model, rfl, in_Model, by decide, g_615, ty_Model, nm_Model, rfl, by decide +kernel⟩
theorem fp_Model_74 : sk_Fp "SkeletonTreeModel" 74 5 4 .boolean := ⟨_, _, _, t_Model, rfl, in_Model, by decide, g_618, ty_Model, nm_Model, rfl, by decide +kernel⟩
theorem fl_Model_32 : sk_Fl "SkeletonTreeModel" 32 5 13 := ⟨_, _, _, rfl, in_Model, by decide, g_627⟩
theorem fl_Model_17 : sk_Fl "SkeletonTreeModel" 17 5 6 := ⟨_, _, _, rfl, in_Model, by decide, g_620⟩
theorem fl_Model_98 : sk_Fl "SkeletonTreeModel" 98 5 5 := ⟨_, _, _, rfl, in_Model, by decide, g_619⟩
theorem fl_Model_20 : sk_Fl "SkeletonTreeModel" 20 5 7 := ⟨_, _, _, rfl, in_Model, by decide, g_621⟩
theorem fl_Model_23 : sk_Fl "SkeletonTreeModel" 23 5 8 := ⟨_, _, _, rfl, in_Model, by decide, g_622⟩
theorem fl_Model_26 : sk_Fl "SkeletonTreeModel" 26 5 9 := ⟨_, _, _, rfl, in_Model, by decide, g_623⟩
theorem fp_Model_98 : sk_Fp "SkeletonTreeModel" 98 5 5 .int := ⟨_, _, _, t_Model, rfl, in_Model, by decide, g_619, ty_Model, nm_Model, rfl, by decide +kernel⟩
theorem fl_Model_35 : sk_Fl "SkeletonTreeModel" 35 5 14 := ⟨_, _, _, rfl, in_Model, by decide, g_628⟩
theorem v_Model_66 : sk_S "SkeletonTreeModel" 66 y_Model_isPoint c_Model_isPoint 1 (Option.some Jvm.ClassFile.FieldType.boolean) 1 := ⟨g_694, g_692, g_693, g_52, by decide +kernel⟩
theorem v_Model_70 : sk_V "SkeletonTreeModel" 70 y_Model_refused c_Model_refused 3 (Option.some Jvm.ClassFile.FieldType.boolean) 2 "SkeletonTreeModel" := ⟨g_698, g_695, g_697, g_19, g_52, by decide +kernel⟩
theorem v_Model_78 : sk_V "SkeletonTreeModel" 78 y_Model_isEdge c_Model_isEdge 2 (Option.some Jvm.ClassFile.FieldType.boolean) 1 "SkeletonTreeModel" := ⟨g_706, g_703, g_705, g_20, g_52, by decide +kernel⟩
theorem v_Model_81 : sk_V "SkeletonTreeModel" 81 y_Model_same c_Model_same 6 (Option.none : Option Jvm.ClassFile.FieldType) 2 "SkeletonTreeModel" := ⟨g_731, g_728, g_730, g_24, g_52, by decide +kernel⟩
theorem v_Model_85 : sk_V "SkeletonTreeModel" 85 y_Model_join c_Model_join 6 (Option.none : Option Jvm.ClassFile.FieldType) 2 "SkeletonTreeModel" := ⟨g_727, g_724, g_726, g_23, g_52, by decide +kernel⟩
theorem v_Model_88 : sk_V "SkeletonTreeModel" 88 y_Model_isUsed c_Model_isUsed 3 (Option.some Jvm.ClassFile.FieldType.boolean) 1 "SkeletonTreeModel" := ⟨g_735, g_732, g_734, g_25, g_52, by decide +kernel⟩
theorem v_Model_91 : sk_V "SkeletonTreeModel" 91 y_Model_edges c_Model_edges 3 (Option.some Jvm.ClassFile.FieldType.int) 0 "SkeletonTreeModel" := ⟨g_710, g_719, g_708, g_709, g_52, by decide +kernel⟩
theorem v_Model_95 : sk_V "SkeletonTreeModel" 95 y_Model_isOne c_Model_isOne 4 (Option.some Jvm.ClassFile.FieldType.boolean) 1 "SkeletonTreeModel" := ⟨g_723, g_720, g_722, g_22, g_52, by decide +kernel⟩
theorem v_Model_101 : sk_V "SkeletonTreeModel" 101 y_Model_touches c_Model_touches 3 (Option.some Jvm.ClassFile.FieldType.boolean) 2 "SkeletonTreeModel" := ⟨g_751, g_748, g_750, g_29, g_52, by decide +kernel⟩
theorem v_Model_105 : sk_V "SkeletonTreeModel" 105 y_Model_isBetween c_Model_isBetween 4 (Option.some Jvm.ClassFile.FieldType.boolean) 3 "SkeletonTreeModel" := ⟨g_767, g_764, g_766, g_33, g_52, by decide +kernel⟩
theorem v_Model_109 : sk_V "SkeletonTreeModel" 109 y_Model_groupOf c_Model_groupOf 4 (Option.some Jvm.ClassFile.FieldType.int) 3 "SkeletonTreeModel" := ⟨g_763, g_760, g_762, g_32, g_52, by decide +kernel⟩
theorem v_Model_113 : sk_V "SkeletonTreeModel" 113 y_Model_look c_Model_look 7 (Option.some Jvm.ClassFile.FieldType.int) 3 "SkeletonTreeModel" := ⟨g_759, g_756, g_758, g_31, g_52, by decide +kernel⟩
theorem v_Model_116 : sk_V "SkeletonTreeModel" 116 y_Model_sizeOf c_Model_sizeOf 4 (Option.some Jvm.ClassFile.FieldType.int) 1 "SkeletonTreeModel" := ⟨g_771, g_768, g_770, g_34, g_52, by decide +kernel⟩
/-! SkeletonTreeModel.thrown()I -/
def t_Model_thrown : List (Nat × Instr × Nat) := [(0, .aload_n 0, 1), (1, .getfield 63, 3), (4, .ireturn, 1)]
set_option maxRecDepth 100000 in
theorem d_Model_thrown : sk_T c_Model_thrown t_Model_thrown := by unfold sk_T t_Model_thrown; decide +kernel
def w_Model_thrown (cI cJ cZ : ClassId) (a_t a_ends a_there a_one a_two a_what a_piece a_kinds a_group a_many a_pieceOf a_numberOf a_ups a_jointUp a_partner a_beyonds a_gone : Nat) (thrown : Int32) (made : Int32) (tree : Int32) (items : Int32) (pieces : Int32) (joints : Int32) (nodes : Int32) : va_W := [(a_t, .inr (5, [.int thrown, .int made, .ref a_ends, .ref a_there, .int tree, .int items, .ref a_one, .ref a_two, .ref a_what, .ref a_piece, .int pieces, .int joints, .ref a_kinds, .ref a_group, .ref a_many, .int nodes, .ref a_pieceOf, .ref a_numberOf, .ref a_ups, .ref a_jointUp, .ref a_partner, .ref a_beyonds, .ref a_gone]))]
def wp_Model_thrown  (thrown : Int32)  (post : Int32 → Prop) : Prop :=
  post thrown 
set_option maxHeartbeats 4000000 in
set_option maxRecDepth 100000 in
theorem bd_Model_thrown {p : Program} {l : Launch} {e : Env} {R : Room} {s : State} {m : MethodId} {args : Array Value} {below : List Frame} {meth : Method} {c : Code} {D : va_G} {A B : Nat → Prop} {Q : State → Prop} {cI cJ cZ : ClassId} {a_t a_ends a_there a_one a_two a_what a_piece a_kinds a_group a_many a_pieceOf a_numberOf a_ups a_jointUp a_partner a_beyonds a_gone : Nat} {thrown : Int32} {made : Int32} {tree : Int32} {items : Int32} {pieces : Int32} {joints : Int32} {nodes : Int32}  (K : sk_C p s m args meth c c_Model_thrown 1 "SkeletonTreeModel" D (tyl cI cJ cZ)) (hR1 : 0 ≤ R.frames) (hR2 : 0 ≤ R.locals) {post : Int32 → Prop} (hend : ∀ (ti pc : Nat) (r : Int32)  (lv : List (Nat × Value)), t_Model_thrown[ti]? = some (pc, .ireturn, 1) → post r  → AW p l e R s m args below meth c D A B 1 Q 0 0 (w_Model_thrown cI cJ cZ a_t a_ends a_there a_one a_two a_what a_piece a_kinds a_group a_many a_pieceOf a_numberOf a_ups a_jointUp a_partner a_beyonds a_gone thrown made tree items pieces joints nodes) lv pc [.int r]) (h : wp_Model_thrown thrown post) : AW p l e R s m args below meth c D A B 1 Q 0 0 (w_Model_thrown cI cJ cZ a_t a_ends a_there a_one a_two a_what a_piece a_kinds a_group a_many a_pieceOf a_numberOf a_ups a_jointUp a_partner a_beyonds a_gone thrown made tree items pieces joints nodes) [(0, .ref a_t)] 0 [] := by
  unfold wp_Model_thrown at h
  refine A_aload_n K d_Model_thrown 0 0 (pc' := 1) rfl rfl rfl rfl ?_
  refine A_get K d_Model_thrown 1 0 fl_Model_63 (pc' := 4) rfl rfl rfl rfl ?_
  exact hend 2 _ _ _ rfl h
theorem met_Model_thrown (l : Launch) (D : va_G) (cI cJ cZ : ClassId) (a_t a_ends a_there a_one a_two a_what a_piece a_kinds a_group a_many a_pieceOf a_numberOf a_ups a_jointUp a_partner a_beyonds a_gone : Nat) (thrown : Int32) (made : Int32) (tree : Int32) (items : Int32) (pieces : Int32) (joints : Int32) (nodes : Int32)  (post : Int32 → Prop) (sz : Nat) : Met l y_Model_thrown (Cond.code y_Model_thrown c_Model_thrown 1 (Option.some Jvm.ClassFile.FieldType.int) :: GW) { frames := 0, cells := 0, slots := 0, locals := 0 } (va_Pc [.ref a_t] (fun U => sk_P D (tyl cI cJ cZ) (w_Model_thrown cI cJ cZ a_t a_ends a_there a_one a_two a_what a_piece a_kinds a_group a_many a_pieceOf a_numberOf a_ups a_jointUp a_partner a_beyonds a_gone thrown made tree items pieces joints nodes) sz U ∧ wp_Model_thrown thrown post)) (va_Qi (fun (r : Int32) (_ : Unit) => post r) (fun _ t => sk_B D (tyl cI cJ cZ) (w_Model_thrown cI cJ cZ a_t a_ends a_there a_one a_two a_what a_piece a_kinds a_group a_many a_pieceOf a_numberOf a_ups a_jointUp a_partner a_beyonds a_gone thrown made tree items pieces joints nodes) (fun _ => True) t) (fun q => sz ≤ q)) 0 0 (fun q => sz ≤ q) :=
  sk_introR (by decide) (Nat.le_of_ble_eq_true rfl) (fun p e s m below meth c K hr _ h => bd_Model_thrown K (Nat.le_refl _) (Nat.le_refl _) (fun ti pc r  lv hd hp => A_iret K d_Model_thrown ti hr (post := (fun (r : Int32) (_ : Unit) => post r)) (wl := fun (_ : Unit) => w_Model_thrown cI cJ cZ a_t a_ends a_there a_one a_two a_what a_piece a_kinds a_group a_many a_pieceOf a_numberOf a_ups a_jointUp a_partner a_beyonds a_gone thrown made tree items pieces joints nodes) () hd hp) h)
/-! SkeletonTreeModel.refused(ZZ)Z -/
def t_Model_refused : List (Nat × Instr × Nat) := [(0, .aload_n 0, 1), (1, .iload_n 1, 1), (2, .ifCond .eq 7, 3), (5, .iconst 1, 1), (6, .goto 12, 3), (9, .iload_n 2, 1), (10, .ifCond .eq 7, 3), (13, .iconst 2, 1), (14, .goto 4, 3), (17, .iconst 0, 1), (18, .putfield 63, 3), (21, .aload_n 0, 1), (22, .getfield 63, 3), (25, .ifCond .le 7, 3), (28, .iconst 1, 1), (29, .goto 4, 3), (32, .iconst 0, 1), (33, .ireturn, 1)]
set_option maxRecDepth 100000 in
theorem d_Model_refused : sk_T c_Model_refused t_Model_refused := by unfold sk_T t_Model_refused; decide +kernel
def w_Model_refused (cI cJ cZ : ClassId) (a_t a_ends a_there a_one a_two a_what a_piece a_kinds a_group a_many a_pieceOf a_numberOf a_ups a_jointUp a_partner a_beyonds a_gone : Nat) (thrown : Int32) (made : Int32) (tree : Int32) (items : Int32) (pieces : Int32) (joints : Int32) (nodes : Int32) : va_W := [(a_t, .inr (5, [.int thrown, .int made, .ref a_ends, .ref a_there, .int tree, .int items, .ref a_one, .ref a_two, .ref a_what, .ref a_piece, .int pieces, .int joints, .ref a_kinds, .ref a_group, .ref a_many, .int nodes, .ref a_pieceOf, .ref a_numberOf, .ref a_ups, .ref a_jointUp, .ref a_partner, .ref a_beyonds, .ref a_gone]))]
def wp_Model_refused  (thrown : Int32) (x1 : Int32) (x2 : Int32) (post : Int32 → Int32 → Prop) : Prop :=
  jn1 (fun (z_1 : Int32) => (z_1 ≤ 0 → post 0 z_1) ∧ (¬ z_1 ≤ 0 → post 1 z_1)) (fun (J_2 : Int32 → Prop) => (x1 = 0 → (x2 = 0 → J_2 0) ∧ (¬ x2 = 0 → J_2 2)) ∧ (¬ x1 = 0 → J_2 1))
set_option maxHeartbeats 4000000 in
set_option maxRecDepth 100000 in
theorem bd_Model_refused {p : Program} {l : Launch} {e : Env} {R : Room} {s : State} {m : MethodId} {args : Array Value} {below : List Frame} {meth : Method} {c : Code} {D : va_G} {A B : Nat → Prop} {Q : State → Prop} {cI cJ cZ : ClassId} {a_t a_ends a_there a_one a_two a_what a_piece a_kinds a_group a_many a_pieceOf a_numberOf a_ups a_jointUp a_partner a_beyonds a_gone : Nat} {thrown : Int32} {made : Int32} {tree : Int32} {items : Int32} {pieces : Int32} {joints : Int32} {nodes : Int32} {x1 : Int32} {x2 : Int32} (K : sk_C p s m args meth c c_Model_refused 3 "SkeletonTreeModel" D (tyl cI cJ cZ)) (hR1 : 0 ≤ R.frames) (hR2 : 0 ≤ R.locals) (hBA : ∀ q : Nat, B q → A q) {post : Int32 → Int32 → Prop} (hend : ∀ (ti pc : Nat) (r : Int32) (y0 : Int32) (lv : List (Nat × Value)), t_Model_refused[ti]? = some (pc, .ireturn, 1) → sk_b r → post r y0 → AW p l e R s m args below meth c D A B 3 Q 0 0 (w_Model_refused cI cJ cZ a_t a_ends a_there a_one a_two a_what a_piece a_kinds a_group a_many a_pieceOf a_numberOf a_ups a_jointUp a_partner a_beyonds a_gone y0 made tree items pieces joints nodes) lv pc [.int r]) (h : wp_Model_refused thrown x1 x2 post) : AW p l e R s m args below meth c D A B 3 Q 0 0 (w_Model_refused cI cJ cZ a_t a_ends a_there a_one a_two a_what a_piece a_kinds a_group a_many a_pieceOf a_numberOf a_ups a_jointUp a_partner a_beyonds a_gone thrown made tree items pieces joints nodes) [(0, .ref a_t), (1, .int x1), (2, .int x2)] 0 [] := by
  unfold wp_Model_refused at h
  refine A_aload_n K d_Model_refused 0 0 (pc' := 1) rfl rfl rfl rfl ?_
  refine A_iload_n K d_Model_refused 1 1 (pc' := 2) rfl rfl rfl rfl ?_
  refine jn1_use (fun (z_1 : Int32) => AW p l e R s m args below meth c D A B 3 Q 0 0 (w_Model_refused cI cJ cZ a_t a_ends a_there a_one a_two a_what a_piece a_kinds a_group a_many a_pieceOf a_numberOf a_ups a_jointUp a_partner a_beyonds a_gone thrown made tree items pieces joints nodes) [(0, .ref a_t)] 18 [.int z_1, .ref a_t]) h ?_ ?_
  · intro z_1 h
    refine A_put K hBA d_Model_refused 10 0 fp_Model_63 (pc' := 21) (ws' := w_Model_refused cI cJ cZ a_t a_ends a_there a_one a_two a_what a_piece a_kinds a_group a_many a_pieceOf a_numberOf a_ups a_jointUp a_partner a_beyonds a_gone z_1 made tree items pieces joints nodes) rfl rfl rfl (Nat.le_of_ble_eq_true rfl) rfl rfl rfl ?_
    refine A_aload_n K d_Model_refused 11 0 (pc' := 22) rfl rfl rfl rfl ?_
    refine A_get K d_Model_refused 12 0 fl_Model_63 (pc' := 25) rfl rfl rfl rfl ?_
    refine A_if_le K d_Model_refused 13 32 (pc' := 28) rfl rfl rfl (fun q => ?_) (fun q => ?_)
    · replace h := h.1 q
      refine A_iconst K d_Model_refused 16 (pc' := 33) (v := 0) rfl rfl (by decide) ?_
      exact hend 17 _ _ _ _ rfl (Or.inl rfl) h
    · replace h := h.2 q
      refine A_iconst K d_Model_refused 14 (pc' := 29) (v := 1) rfl rfl (by decide) ?_
      refine A_goto K d_Model_refused 15 (pc' := 33) rfl rfl ?_
      exact hend 17 _ _ _ _ rfl (Or.inr rfl) h
  · intro J_2 hJ_3 h
    refine A_if_eq K d_Model_refused 2 9 (pc' := 5) rfl rfl rfl (fun q => ?_) (fun q => ?_)
    · replace h := h.1 q
      refine A_iload_n K d_Model_refused 5 2 (pc' := 10) rfl rfl rfl rfl ?_
      refine A_if_eq K d_Model_refused 6 17 (pc' := 13) rfl rfl rfl (fun q => ?_) (fun q => ?_)
      · replace h := h.1 q
        refine A_iconst K d_Model_refused 9 (pc' := 18) (v := 0) rfl rfl (by decide) ?_
        refine A_lv [0] rfl ?_
        exact hJ_3 _ h
      · replace h := h.2 q
        refine A_iconst K d_Model_refused 7 (pc' := 14) (v := 2) rfl rfl (by decide) ?_
        refine A_goto K d_Model_refused 8 (pc' := 18) rfl rfl ?_
        refine A_lv [0] rfl ?_
        exact hJ_3 _ h
    · replace h := h.2 q
      refine A_iconst K d_Model_refused 3 (pc' := 6) (v := 1) rfl rfl (by decide) ?_
      refine A_goto K d_Model_refused 4 (pc' := 18) rfl rfl ?_
      refine A_lv [0] rfl ?_
      exact hJ_3 _ h
theorem met_Model_refused (l : Launch) (D : va_G) (cI cJ cZ : ClassId) (a_t a_ends a_there a_one a_two a_what a_piece a_kinds a_group a_many a_pieceOf a_numberOf a_ups a_jointUp a_partner a_beyonds a_gone : Nat) (thrown : Int32) (made : Int32) (tree : Int32) (items : Int32) (pieces : Int32) (joints : Int32) (nodes : Int32) (x1 : Int32) (x2 : Int32) (post : Int32 → Int32 → Prop) (sz : Nat) : Met l y_Model_refused (Cond.code y_Model_refused c_Model_refused 3 (Option.some Jvm.ClassFile.FieldType.boolean) :: GW) { frames := 0, cells := 0, slots := 0, locals := 0 } (va_Pc [.ref a_t, .int x1, .int x2] (fun U => sk_P D (tyl cI cJ cZ) (w_Model_refused cI cJ cZ a_t a_ends a_there a_one a_two a_what a_piece a_kinds a_group a_many a_pieceOf a_numberOf a_ups a_jointUp a_partner a_beyonds a_gone thrown made tree items pieces joints nodes) sz U ∧ wp_Model_refused thrown x1 x2 post)) (va_Qi (fun (r : Int32) (u : Int32) => post r u) (fun u t => sk_B D (tyl cI cJ cZ) (w_Model_refused cI cJ cZ a_t a_ends a_there a_one a_two a_what a_piece a_kinds a_group a_many a_pieceOf a_numberOf a_ups a_jointUp a_partner a_beyonds a_gone u made tree items pieces joints nodes) (va_A (w_Model_refused cI cJ cZ a_t a_ends a_there a_one a_two a_what a_piece a_kinds a_group a_many a_pieceOf a_numberOf a_ups a_jointUp a_partner a_beyonds a_gone thrown made tree items pieces joints nodes) sz) t) (va_A (w_Model_refused cI cJ cZ a_t a_ends a_there a_one a_two a_what a_piece a_kinds a_group a_many a_pieceOf a_numberOf a_ups a_jointUp a_partner a_beyonds a_gone thrown made tree items pieces joints nodes) sz)) 0 0 (va_A (w_Model_refused cI cJ cZ a_t a_ends a_there a_one a_two a_what a_piece a_kinds a_group a_many a_pieceOf a_numberOf a_ups a_jointUp a_partner a_beyonds a_gone thrown made tree items pieces joints nodes) sz) :=
  sk_intro (by decide) (Nat.le_of_ble_eq_true rfl) (fun p e s m below meth c K hr _ h => bd_Model_refused K (Nat.le_refl _) (Nat.le_refl _) (fun _ z => z) (fun ti pc r y0 lv hd hb hp => A_zret K d_Model_refused ti hr (post := (fun (r : Int32) (u : Int32) => post r u)) (wl := fun (u : Int32) => w_Model_refused cI cJ cZ a_t a_ends a_there a_one a_two a_what a_piece a_kinds a_group a_many a_pieceOf a_numberOf a_ups a_jointUp a_partner a_beyonds a_gone u made tree items pieces joints nodes) y0 hd hb hp) h)
/-! SkeletonTreeModel.isPoint(I)Z -/
def t_Model_isPoint : List (Nat × Instr × Nat) := [(0, .iload_n 0, 1), (1, .ifCond .lt 13, 3), (4, .iload_n 0, 1), (5, .bipush 40, 2), (7, .if_icmp .ge 7, 3), (10, .iconst 1, 1), (11, .goto 4, 3), (14, .iconst 0, 1), (15, .ireturn, 1)]
set_option maxRecDepth 100000 in
theorem d_Model_isPoint : sk_T c_Model_isPoint t_Model_isPoint := by unfold sk_T t_Model_isPoint; decide +kernel
def w_Model_isPoint (cI cJ cZ : ClassId)   : va_W := []
def wp_Model_isPoint   (x0 : Int32) (post : Int32 → Prop) : Prop :=
  (x0 < 0 → post 0 ) ∧ (¬ x0 < 0 → (40 ≤ x0 → post 0 ) ∧ (¬ 40 ≤ x0 → post 1 ))
set_option maxHeartbeats 4000000 in
set_option maxRecDepth 100000 in
theorem bd_Model_isPoint {p : Program} {l : Launch} {e : Env} {R : Room} {s : State} {m : MethodId} {args : Array Value} {below : List Frame} {meth : Method} {c : Code} {D : va_G} {A B : Nat → Prop} {Q : State → Prop} {cI cJ cZ : ClassId}   {x0 : Int32} (K : sk_C p s m args meth c c_Model_isPoint 1 "SkeletonTreeModel" D (tyl cI cJ cZ)) (hR1 : 0 ≤ R.frames) (hR2 : 0 ≤ R.locals) {post : Int32 → Prop} (hend : ∀ (ti pc : Nat) (r : Int32)  (lv : List (Nat × Value)), t_Model_isPoint[ti]? = some (pc, .ireturn, 1) → sk_b r → post r  → AW p l e R s m args below meth c D A B 1 Q 0 0 (w_Model_isPoint cI cJ cZ ) lv pc [.int r]) (h : wp_Model_isPoint x0 post) : AW p l e R s m args below meth c D A B 1 Q 0 0 (w_Model_isPoint cI cJ cZ ) [(0, .int x0)] 0 [] := by
  unfold wp_Model_isPoint at h
  refine A_iload_n K d_Model_isPoint 0 0 (pc' := 1) rfl rfl rfl rfl ?_
  refine A_if_lt K d_Model_isPoint 1 14 (pc' := 4) rfl rfl rfl (fun q => ?_) (fun q => ?_)
  · replace h := h.1 q
    refine A_iconst K d_Model_isPoint 7 (pc' := 15) (v := 0) rfl rfl (by decide) ?_
    exact hend 8 _ _ _ rfl (Or.inl rfl) h
  · replace h := h.2 q
    refine A_iload_n K d_Model_isPoint 2 0 (pc' := 5) rfl rfl rfl rfl ?_
    refine A_bipush K d_Model_isPoint 3 (pc' := 7) (v := 40) rfl rfl (by decide) ?_
    refine A_icmp_ge K d_Model_isPoint 4 14 (pc' := 10) rfl rfl rfl (fun q => ?_) (fun q => ?_)
    · replace h := h.1 q
      refine A_iconst K d_Model_isPoint 7 (pc' := 15) (v := 0) rfl rfl (by decide) ?_
      exact hend 8 _ _ _ rfl (Or.inl rfl) h
    · replace h := h.2 q
      refine A_iconst K d_Model_isPoint 5 (pc' := 11) (v := 1) rfl rfl (by decide) ?_
      refine A_goto K d_Model_isPoint 6 (pc' := 15) rfl rfl ?_
      exact hend 8 _ _ _ rfl (Or.inr rfl) h
theorem met_Model_isPoint (l : Launch) (D : va_G) (cI cJ cZ : ClassId)   (x0 : Int32) (post : Int32 → Prop) (sz : Nat) : Met l y_Model_isPoint (Cond.code y_Model_isPoint c_Model_isPoint 1 (Option.some Jvm.ClassFile.FieldType.boolean) :: GW) { frames := 0, cells := 0, slots := 0, locals := 0 } (va_Pc [.int x0] (fun U => sk_P D (tyl cI cJ cZ) (w_Model_isPoint cI cJ cZ ) sz U ∧ wp_Model_isPoint x0 post)) (va_Qi (fun (r : Int32) (_ : Unit) => post r) (fun _ t => sk_B D (tyl cI cJ cZ) (w_Model_isPoint cI cJ cZ ) (fun _ => True) t) (fun q => sz ≤ q)) 0 0 (fun q => sz ≤ q) :=
  sk_introR (by decide) (Nat.le_of_ble_eq_true rfl) (fun p e s m below meth c K hr _ h => bd_Model_isPoint K (Nat.le_refl _) (Nat.le_refl _) (fun ti pc r  lv hd hb hp => A_zret K d_Model_isPoint ti hr (post := (fun (r : Int32) (_ : Unit) => post r)) (wl := fun (_ : Unit) => w_Model_isPoint cI cJ cZ ) () hd hb hp) h)
/-! SkeletonTreeModel.edge(II)I -/
def t_Model_edge : List (Nat × Instr × Nat) := [(0, .aload_n 0, 1), (1, .iload_n 1, 1), (2, .invokestatic 66, 3), (5, .ifCond .eq 15, 3), (8, .iload_n 2, 1), (9, .invokestatic 66, 3), (12, .ifCond .eq 8, 3), (15, .iload_n 1, 1), (16, .iload_n 2, 1), (17, .if_icmp .ne 7, 3), (20, .iconst 1, 1), (21, .goto 4, 3), (24, .iconst 0, 1), (25, .aload_n 0, 1), (26, .getfield 59, 3), (29, .bipush 100, 2), (31, .if_icmp .ne 7, 3), (34, .iconst 1, 1), (35, .goto 4, 3), (38, .iconst 0, 1), (39, .invokevirtual 70, 3), (42, .ifCond .eq 5, 3), (45, .iconst 0, 1), (46, .ireturn, 1), (47, .aload_n 0, 1), (48, .getfield 7, 3), (51, .iconst 2, 1), (52, .aload_n 0, 1), (53, .getfield 59, 3), (56, .imul, 1), (57, .iload_n 1, 1), (58, .iastore, 1), (59, .aload_n 0, 1), (60, .getfield 7, 3), (63, .iconst 2, 1), (64, .aload_n 0, 1), (65, .getfield 59, 3), (68, .imul, 1), (69, .iconst 1, 1), (70, .iadd, 1), (71, .iload_n 2, 1), (72, .iastore, 1), (73, .aload_n 0, 1), (74, .getfield 13, 3), (77, .aload_n 0, 1), (78, .getfield 59, 3), (81, .iconst 1, 1), (82, .bastore, 1), (83, .aload_n 0, 1), (84, .dup, 1), (85, .getfield 59, 3), (88, .iconst 1, 1), (89, .iadd, 1), (90, .putfield 59, 3), (93, .aload_n 0, 1), (94, .iconst 0, 1), (95, .putfield 74, 3), (98, .aload_n 0, 1), (99, .getfield 59, 3), (102, .iconst 1, 1), (103, .isub, 1), (104, .ireturn, 1)]
set_option maxRecDepth 100000 in
theorem d_Model_edge : sk_T c_Model_edge t_Model_edge := by unfold sk_T t_Model_edge; decide +kernel
def w_Model_edge (cI cJ cZ : ClassId) (a_t a_ends a_there a_one a_two a_what a_piece a_kinds a_group a_many a_pieceOf a_numberOf a_ups a_jointUp a_partner a_beyonds a_gone : Nat) (thrown : Int32) (made : Int32) (ends : Nat → Int32) (there : Nat → Int32) (tree : Int32) (items : Int32) (pieces : Int32) (joints : Int32) (nodes : Int32) : va_W := [(a_t, .inr (5, [.int thrown, .int made, .ref a_ends, .ref a_there, .int tree, .int items, .ref a_one, .ref a_two, .ref a_what, .ref a_piece, .int pieces, .int joints, .ref a_kinds, .ref a_group, .ref a_many, .int nodes, .ref a_pieceOf, .ref a_numberOf, .ref a_ups, .ref a_jointUp, .ref a_partner, .ref a_beyonds, .ref a_gone])), (a_ends, .inl (cI, 200, .inl ends)), (a_there, .inl (cZ, 100, .inl there))]
def wp_Model_edge  (thrown : Int32) (made : Int32) (ends : Nat → Int32) (there : Nat → Int32) (tree : Int32) (x1 : Int32) (x2 : Int32) (post : Int32 → Int32 → Int32 → (Nat → Int32) → (Nat → Int32) → Int32 → Prop) : Prop :=
  wp_Model_isPoint x1 (fun r_1 => jn1 (fun (z_2 : Int32) => jn1 (fun (z_6 : Int32) => wp_Model_refused thrown z_2 z_6 (fun r_10 thrown_9 => (r_10 = 0 → vp_in (2 * made) 200 ∧ ∀ ends_11 : Nat → Int32, ends_11 = upd ends (ix (2 * made)) x1 → vp_in ((2 * made) + 1) 200 ∧ ∀ ends_13 : Nat → Int32, ends_13 = upd ends_11 (ix ((2 * made) + 1)) x2 → vp_in made 100 ∧ ∀ there_15 : Nat → Int32, there_15 = upd there (ix made) 1 → post ((made + 1) - 1) thrown_9 (made + 1) ends_13 there_15 0) ∧ (¬ r_10 = 0 → post 0 thrown_9 made ends there tree))) (fun (J_7 : Int32 → Prop) => (¬ made = 100 → J_7 0) ∧ (made = 100 → J_7 1))) (fun (J_3 : Int32 → Prop) => (r_1 = 0 → J_3 1) ∧ (¬ r_1 = 0 → wp_Model_isPoint x2 (fun r_5 => (r_5 = 0 → J_3 1) ∧ (¬ r_5 = 0 → (¬ x1 = x2 → J_3 0) ∧ (x1 = x2 → J_3 1))))))
set_option maxHeartbeats 4000000 in
set_option maxRecDepth 100000 in
theorem bd_Model_edge {p : Program} {l : Launch} {e : Env} {R : Room} {s : State} {m : MethodId} {args : Array Value} {below : List Frame} {meth : Method} {c : Code} {D : va_G} {A B : Nat → Prop} {Q : State → Prop} {cI cJ cZ : ClassId} {a_t a_ends a_there a_one a_two a_what a_piece a_kinds a_group a_many a_pieceOf a_numberOf a_ups a_jointUp a_partner a_beyonds a_gone : Nat} {thrown : Int32} {made : Int32} {ends : Nat → Int32} {there : Nat → Int32} {tree : Int32} {items : Int32} {pieces : Int32} {joints : Int32} {nodes : Int32} {x1 : Int32} {x2 : Int32} (K : sk_C p s m args meth c c_Model_edge 3 "SkeletonTreeModel" D (tyl cI cJ cZ)) (hR1 : 1 ≤ R.frames) (hR2 : 22 ≤ R.locals) (hBA : ∀ q : Nat, B q → A q) {post : Int32 → Int32 → Int32 → (Nat → Int32) → (Nat → Int32) → Int32 → Prop} (hend : ∀ (ti pc : Nat) (r : Int32) (y0 : Int32) (y1 : Int32) (y2 : Nat → Int32) (y3 : Nat → Int32) (y4 : Int32) (lv : List (Nat × Value)), t_Model_edge[ti]? = some (pc, .ireturn, 1) → post r y0 y1 y2 y3 y4 → AW p l e R s m args below meth c D A B 3 Q 0 0 (w_Model_edge cI cJ cZ a_t a_ends a_there a_one a_two a_what a_piece a_kinds a_group a_many a_pieceOf a_numberOf a_ups a_jointUp a_partner a_beyonds a_gone y0 y1 y2 y3 y4 items pieces joints nodes) lv pc [.int r]) (h : wp_Model_edge thrown made ends there tree x1 x2 post) : AW p l e R s m args below meth c D A B 3 Q 0 0 (w_Model_edge cI cJ cZ a_t a_ends a_there a_one a_two a_what a_piece a_kinds a_group a_many a_pieceOf a_numberOf a_ups a_jointUp a_partner a_beyonds a_gone thrown made ends there tree items pieces joints nodes) [(0, .ref a_t), (1, .int x1), (2, .int x2)] 0 [] := by
  unfold wp_Model_edge at h
  refine A_aload_n K d_Model_edge 0 0 (pc' := 1) rfl rfl rfl rfl ?_
  refine A_iload_n K d_Model_edge 1 1 (pc' := 2) rfl rfl rfl rfl ?_
  refine R_callS_i K d_Model_edge 2 [] (As := [.int x1]) (rest := [.ref a_t]) (pc' := 5) v_Model_66 ⟨rfl, rfl, Nat.le_trans (Nat.le_of_ble_eq_true rfl) hR1, Nat.le_trans (Nat.le_of_ble_eq_true rfl) hR2⟩ (fun sz => met_Model_isPoint l D cI cJ cZ x1 _ sz) h rfl rfl rfl rfl rfl rfl (Nat.le_of_ble_eq_true rfl) ⟨Nat.zero_le _, Nat.zero_le _⟩ (fun r_1 h => ?_)
  refine jn1_use (fun (z_2 : Int32) => AW p l e R s m args below meth c D A B 3 Q 0 0 (w_Model_edge cI cJ cZ a_t a_ends a_there a_one a_two a_what a_piece a_kinds a_group a_many a_pieceOf a_numberOf a_ups a_jointUp a_partner a_beyonds a_gone thrown made ends there tree items pieces joints nodes) [(0, .ref a_t), (1, .int x1), (2, .int x2)] 25 [.int z_2, .ref a_t]) h ?_ ?_
  · intro z_2 h
    refine A_aload_n K d_Model_edge 13 0 (pc' := 26) rfl rfl rfl rfl ?_
    refine A_get K d_Model_edge 14 0 fl_Model_59 (pc' := 29) rfl rfl rfl rfl ?_
    refine A_bipush K d_Model_edge 15 (pc' := 31) (v := 100) rfl rfl (by decide) ?_
    refine jn1_use (fun (z_6 : Int32) => AW p l e R s m args below meth c D A B 3 Q 0 0 (w_Model_edge cI cJ cZ a_t a_ends a_there a_one a_two a_what a_piece a_kinds a_group a_many a_pieceOf a_numberOf a_ups a_jointUp a_partner a_beyonds a_gone thrown made ends there tree items pieces joints nodes) [(0, .ref a_t), (1, .int x1), (2, .int x2)] 39 [.int z_6, .int z_2, .ref a_t]) h ?_ ?_
    · intro z_6 h
      refine C_Vi1 K hBA d_Model_edge 20 [0] [some 0, none, none] (As := [.int z_2, .int z_6]) (rest := []) (pc' := 42) (wl := fun thrown_9 => w_Model_refused cI cJ cZ a_t a_ends a_there a_one a_two a_what a_piece a_kinds a_group a_many a_pieceOf a_numberOf a_ups a_jointUp a_partner a_beyonds a_gone thrown_9 made tree items pieces joints nodes) (ws' := fun thrown_9 => w_Model_edge cI cJ cZ a_t a_ends a_there a_one a_two a_what a_piece a_kinds a_group a_many a_pieceOf a_numberOf a_ups a_jointUp a_partner a_beyonds a_gone thrown_9 made ends there tree items pieces joints nodes) v_Model_70 ⟨rfl, rfl, Nat.le_trans (Nat.le_of_ble_eq_true rfl) hR1, Nat.le_trans (Nat.le_of_ble_eq_true rfl) hR2⟩ (fun sz => met_Model_refused l D cI cJ cZ a_t a_ends a_there a_one a_two a_what a_piece a_kinds a_group a_many a_pieceOf a_numberOf a_ups a_jointUp a_partner a_beyonds a_gone thrown made tree items pieces joints nodes z_2 z_6 _ sz) h rfl rfl rfl rfl rfl (fun _ => rfl) rfl (by decide) (Nat.le_of_ble_eq_true rfl) ⟨Nat.zero_le _, Nat.zero_le _⟩ (q0 := 0) rfl rfl (fun _ => rfl) (fun r_10 thrown_9 h => ?_)
      refine A_if_eq K d_Model_edge 21 47 (pc' := 45) rfl rfl rfl (fun q => ?_) (fun q => ?_)
      · replace h := h.1 q
        refine A_aload_n K d_Model_edge 24 0 (pc' := 48) rfl rfl rfl rfl ?_
        refine A_get K d_Model_edge 25 0 fl_Model_7 (pc' := 51) rfl rfl rfl rfl ?_
        refine A_iconst K d_Model_edge 26 (pc' := 52) (v := 2) rfl rfl (by decide) ?_
        refine A_aload_n K d_Model_edge 27 0 (pc' := 53) rfl rfl rfl rfl ?_
        refine A_get K d_Model_edge 28 0 fl_Model_59 (pc' := 56) rfl rfl rfl rfl ?_
        refine A_imul K d_Model_edge 29 (pc' := 57) rfl rfl ?_
        refine A_iload_n K d_Model_edge 30 1 (pc' := 58) rfl rfl rfl rfl ?_
        refine A_iastN K hBA d_Model_edge 31 1 0 (pc' := 59) (ws' := fun ends_11 => w_Model_edge cI cJ cZ a_t a_ends a_there a_one a_two a_what a_piece a_kinds a_group a_many a_pieceOf a_numberOf a_ups a_jointUp a_partner a_beyonds a_gone thrown_9 made ends_11 there tree items pieces joints nodes) rfl rfl rfl rfl h.1 (fun _ => rfl) (fun ends_11 e_12 => ?_)
        replace h := h.2 ends_11 e_12
        refine A_aload_n K d_Model_edge 32 0 (pc' := 60) rfl rfl rfl rfl ?_
        refine A_get K d_Model_edge 33 0 fl_Model_7 (pc' := 63) rfl rfl rfl rfl ?_
        refine A_iconst K d_Model_edge 34 (pc' := 64) (v := 2) rfl rfl (by decide) ?_
        refine A_aload_n K d_Model_edge 35 0 (pc' := 65) rfl rfl rfl rfl ?_
        refine A_get K d_Model_edge 36 0 fl_Model_59 (pc' := 68) rfl rfl rfl rfl ?_
        refine A_imul K d_Model_edge 37 (pc' := 69) rfl rfl ?_
        refine A_iconst K d_Model_edge 38 (pc' := 70) (v := 1) rfl rfl (by decide) ?_
        refine A_iadd K d_Model_edge 39 (pc' := 71) rfl rfl ?_
        refine A_iload_n K d_Model_edge 40 2 (pc' := 72) rfl rfl rfl rfl ?_
        refine A_iastN K hBA d_Model_edge 41 1 0 (pc' := 73) (ws' := fun ends_13 => w_Model_edge cI cJ cZ a_t a_ends a_there a_one a_two a_what a_piece a_kinds a_group a_many a_pieceOf a_numberOf a_ups a_jointUp a_partner a_beyonds a_gone thrown_9 made ends_13 there tree items pieces joints nodes) rfl rfl rfl rfl h.1 (fun _ => rfl) (fun ends_13 e_14 => ?_)
        replace h := h.2 ends_13 e_14
        refine A_aload_n K d_Model_edge 42 0 (pc' := 74) rfl rfl rfl rfl ?_
        refine A_get K d_Model_edge 43 0 fl_Model_13 (pc' := 77) rfl rfl rfl rfl ?_
        refine A_aload_n K d_Model_edge 44 0 (pc' := 78) rfl rfl rfl rfl ?_
        refine A_get K d_Model_edge 45 0 fl_Model_59 (pc' := 81) rfl rfl rfl rfl ?_
        refine A_iconst K d_Model_edge 46 (pc' := 82) (v := 1) rfl rfl (by decide) ?_
        refine A_zastN K hBA d_Model_edge 47 2 2 (pc' := 83) (ws' := fun there_15 => w_Model_edge cI cJ cZ a_t a_ends a_there a_one a_two a_what a_piece a_kinds a_group a_many a_pieceOf a_numberOf a_ups a_jointUp a_partner a_beyonds a_gone thrown_9 made ends_13 there_15 tree items pieces joints nodes) rfl rfl rfl rfl h.1 rfl (fun _ => rfl) (fun there_15 e_16 => ?_)
        replace h := h.2 there_15 e_16
        refine A_aload_n K d_Model_edge 48 0 (pc' := 84) rfl rfl rfl rfl ?_
        refine A_dup K d_Model_edge 49 (pc' := 85) rfl rfl rfl ?_
        refine A_get K d_Model_edge 50 0 fl_Model_59 (pc' := 88) rfl rfl rfl rfl ?_
        refine A_iconst K d_Model_edge 51 (pc' := 89) (v := 1) rfl rfl (by decide) ?_
        refine A_iadd K d_Model_edge 52 (pc' := 90) rfl rfl ?_
        refine A_put K hBA d_Model_edge 53 0 fp_Model_59 (pc' := 93) (ws' := w_Model_edge cI cJ cZ a_t a_ends a_there a_one a_two a_what a_piece a_kinds a_group a_many a_pieceOf a_numberOf a_ups a_jointUp a_partner a_beyonds a_gone thrown_9 (made + 1) ends_13 there_15 tree items pieces joints nodes) rfl rfl rfl (Nat.le_of_ble_eq_true rfl) rfl rfl rfl ?_
        refine A_aload_n K d_Model_edge 54 0 (pc' := 94) rfl rfl rfl rfl ?_
        refine A_iconst K d_Model_edge 55 (pc' := 95) (v := 0) rfl rfl (by decide) ?_
        refine A_put K hBA d_Model_edge 56 0 fp_Model_74 (pc' := 98) (ws' := w_Model_edge cI cJ cZ a_t a_ends a_there a_one a_two a_what a_piece a_kinds a_group a_many a_pieceOf a_numberOf a_ups a_jointUp a_partner a_beyonds a_gone thrown_9 (made + 1) ends_13 there_15 0 items pieces joints nodes) rfl rfl rfl (Nat.le_of_ble_eq_true rfl) rfl rfl rfl ?_
        refine A_aload_n K d_Model_edge 57 0 (pc' := 99) rfl rfl rfl rfl ?_
        refine A_get K d_Model_edge 58 0 fl_Model_59 (pc' := 102) rfl rfl rfl rfl ?_
        refine A_iconst K d_Model_edge 59 (pc' := 103) (v := 1) rfl rfl (by decide) ?_
        refine A_isub K d_Model_edge 60 (pc' := 104) rfl rfl ?_
        exact hend 61 _ _ _ _ _ _ _ _ rfl h
      · replace h := h.2 q
        refine A_iconst K d_Model_edge 22 (pc' := 46) (v := 0) rfl rfl (by decide) ?_
        exact hend 23 _ _ _ _ _ _ _ _ rfl h
    · intro J_7 hJ_8 h
      refine A_icmp_ne K d_Model_edge 16 38 (pc' := 34) rfl rfl rfl (fun q => ?_) (fun q => ?_)
      · replace h := h.1 q
        refine A_iconst K d_Model_edge 19 (pc' := 39) (v := 0) rfl rfl (by decide) ?_
        refine A_lv [0, 1, 2] rfl ?_
        exact hJ_8 _ h
      · replace h := h.2 q
        refine A_iconst K d_Model_edge 17 (pc' := 35) (v := 1) rfl rfl (by decide) ?_
        refine A_goto K d_Model_edge 18 (pc' := 39) rfl rfl ?_
        refine A_lv [0, 1, 2] rfl ?_
        exact hJ_8 _ h
  · intro J_3 hJ_4 h
    refine A_if_eq K d_Model_edge 3 20 (pc' := 8) rfl rfl rfl (fun q => ?_) (fun q => ?_)
    · replace h := h.1 q
      refine A_iconst K d_Model_edge 10 (pc' := 21) (v := 1) rfl rfl (by decide) ?_
      refine A_goto K d_Model_edge 11 (pc' := 25) rfl rfl ?_
      refine A_lv [0, 1, 2] rfl ?_
      exact hJ_4 _ h
    · replace h := h.2 q
      refine A_iload_n K d_Model_edge 4 2 (pc' := 9) rfl rfl rfl rfl ?_
      refine R_callS_i K d_Model_edge 5 [] (As := [.int x2]) (rest := [.ref a_t]) (pc' := 12) v_Model_66 ⟨rfl, rfl, Nat.le_trans (Nat.le_of_ble_eq_true rfl) hR1, Nat.le_trans (Nat.le_of_ble_eq_true rfl) hR2⟩ (fun sz => met_Model_isPoint l D cI cJ cZ x2 _ sz) h rfl rfl rfl rfl rfl rfl (Nat.le_of_ble_eq_true rfl) ⟨Nat.zero_le _, Nat.zero_le _⟩ (fun r_5 h => ?_)
      refine A_if_eq K d_Model_edge 6 20 (pc' := 15) rfl rfl rfl (fun q => ?_) (fun q => ?_)
      · replace h := h.1 q
        refine A_iconst K d_Model_edge 10 (pc' := 21) (v := 1) rfl rfl (by decide) ?_
        refine A_goto K d_Model_edge 11 (pc' := 25) rfl rfl ?_
        refine A_lv [0, 1, 2] rfl ?_
        exact hJ_4 _ h
      · replace h := h.2 q
        refine A_iload_n K d_Model_edge 7 1 (pc' := 16) rfl rfl rfl rfl ?_
        refine A_iload_n K d_Model_edge 8 2 (pc' := 17) rfl rfl rfl rfl ?_
        refine A_icmp_ne K d_Model_edge 9 24 (pc' := 20) rfl rfl rfl (fun q => ?_) (fun q => ?_)
        · replace h := h.1 q
          refine A_iconst K d_Model_edge 12 (pc' := 25) (v := 0) rfl rfl (by decide) ?_
          refine A_lv [0, 1, 2] rfl ?_
          exact hJ_4 _ h
        · replace h := h.2 q
          refine A_iconst K d_Model_edge 10 (pc' := 21) (v := 1) rfl rfl (by decide) ?_
          refine A_goto K d_Model_edge 11 (pc' := 25) rfl rfl ?_
          refine A_lv [0, 1, 2] rfl ?_
          exact hJ_4 _ h
theorem met_Model_edge (l : Launch) (D : va_G) (cI cJ cZ : ClassId) (a_t a_ends a_there a_one a_two a_what a_piece a_kinds a_group a_many a_pieceOf a_numberOf a_ups a_jointUp a_partner a_beyonds a_gone : Nat) (thrown : Int32) (made : Int32) (ends : Nat → Int32) (there : Nat → Int32) (tree : Int32) (items : Int32) (pieces : Int32) (joints : Int32) (nodes : Int32) (x1 : Int32) (x2 : Int32) (post : Int32 → Int32 → Int32 → (Nat → Int32) → (Nat → Int32) → Int32 → Prop) (sz : Nat) : Met l y_Model_edge (Cond.code y_Model_edge c_Model_edge 3 (Option.some Jvm.ClassFile.FieldType.int) :: GW) { frames := 1, cells := 0, slots := 0, locals := 22 } (va_Pc [.ref a_t, .int x1, .int x2] (fun U => sk_P D (tyl cI cJ cZ) (w_Model_edge cI cJ cZ a_t a_ends a_there a_one a_two a_what a_piece a_kinds a_group a_many a_pieceOf a_numberOf a_ups a_jointUp a_partner a_beyonds a_gone thrown made ends there tree items pieces joints nodes) sz U ∧ wp_Model_edge thrown made ends there tree x1 x2 post)) (va_Qi (fun (r : Int32) (u : Int32 × Int32 × (Nat → Int32) × (Nat → Int32) × Int32) => post r u.1 u.2.1 u.2.2.1 u.2.2.2.1 u.2.2.2.2) (fun u t => sk_B D (tyl cI cJ cZ) (w_Model_edge cI cJ cZ a_t a_ends a_there a_one a_two a_what a_piece a_kinds a_group a_many a_pieceOf a_numberOf a_ups a_jointUp a_partner a_beyonds a_gone u.1 u.2.1 u.2.2.1 u.2.2.2.1 u.2.2.2.2 items pieces joints nodes) (va_A (w_Model_edge cI cJ cZ a_t a_ends a_there a_one a_two a_what a_piece a_kinds a_group a_many a_pieceOf a_numberOf a_ups a_jointUp a_partner a_beyonds a_gone thrown made ends there tree items pieces joints nodes) sz) t) (va_A (w_Model_edge cI cJ cZ a_t a_ends a_there a_one a_two a_what a_piece a_kinds a_group a_many a_pieceOf a_numberOf a_ups a_jointUp a_partner a_beyonds a_gone thrown made ends there tree items pieces joints nodes) sz)) 0 0 (va_A (w_Model_edge cI cJ cZ a_t a_ends a_there a_one a_two a_what a_piece a_kinds a_group a_many a_pieceOf a_numberOf a_ups a_jointUp a_partner a_beyonds a_gone thrown made ends there tree items pieces joints nodes) sz) :=
  sk_intro (by decide) (Nat.le_of_ble_eq_true rfl) (fun p e s m below meth c K hr _ h => bd_Model_edge K (Nat.le_refl _) (Nat.le_refl _) (fun _ z => z) (fun ti pc r y0 y1 y2 y3 y4 lv hd hp => A_iret K d_Model_edge ti hr (post := (fun (r : Int32) (u : Int32 × Int32 × (Nat → Int32) × (Nat → Int32) × Int32) => post r u.1 u.2.1 u.2.2.1 u.2.2.2.1 u.2.2.2.2)) (wl := fun (u : Int32 × Int32 × (Nat → Int32) × (Nat → Int32) × Int32) => w_Model_edge cI cJ cZ a_t a_ends a_there a_one a_two a_what a_piece a_kinds a_group a_many a_pieceOf a_numberOf a_ups a_jointUp a_partner a_beyonds a_gone u.1 u.2.1 u.2.2.1 u.2.2.2.1 u.2.2.2.2 items pieces joints nodes) (y0, y1, y2, y3, y4) hd hp) h)
/-! SkeletonTreeModel.isEdge(I)Z -/
def t_Model_isEdge : List (Nat × Instr × Nat) := [(0, .iload_n 1, 1), (1, .ifCond .lt 24, 3), (4, .iload_n 1, 1), (5, .aload_n 0, 1), (6, .getfield 59, 3), (9, .if_icmp .ge 16, 3), (12, .aload_n 0, 1), (13, .getfield 13, 3), (16, .iload_n 1, 1), (17, .baload, 1), (18, .ifCond .eq 7, 3), (21, .iconst 1, 1), (22, .goto 4, 3), (25, .iconst 0, 1), (26, .ireturn, 1)]
set_option maxRecDepth 100000 in
theorem d_Model_isEdge : sk_T c_Model_isEdge t_Model_isEdge := by unfold sk_T t_Model_isEdge; decide +kernel
def w_Model_isEdge (cI cJ cZ : ClassId) (a_t a_ends a_there a_one a_two a_what a_piece a_kinds a_group a_many a_pieceOf a_numberOf a_ups a_jointUp a_partner a_beyonds a_gone : Nat) (thrown : Int32) (made : Int32) (there : Nat → Int32) (tree : Int32) (items : Int32) (pieces : Int32) (joints : Int32) (nodes : Int32) : va_W := [(a_t, .inr (5, [.int thrown, .int made, .ref a_ends, .ref a_there, .int tree, .int items, .ref a_one, .ref a_two, .ref a_what, .ref a_piece, .int pieces, .int joints, .ref a_kinds, .ref a_group, .ref a_many, .int nodes, .ref a_pieceOf, .ref a_numberOf, .ref a_ups, .ref a_jointUp, .ref a_partner, .ref a_beyonds, .ref a_gone])), (a_there, .inl (cZ, 100, .inl there))]
def wp_Model_isEdge  (made : Int32) (there : Nat → Int32) (x1 : Int32) (post : Int32 → Prop) : Prop :=
  (x1 < 0 → post 0 ) ∧ (¬ x1 < 0 → (made ≤ x1 → post 0 ) ∧ (¬ made ≤ x1 → vp_in x1 100 ∧ ((there (ix x1)) = 0 → post 0 ) ∧ (¬ (there (ix x1)) = 0 → post 1 )))
set_option maxHeartbeats 4000000 in
set_option maxRecDepth 100000 in
theorem bd_Model_isEdge {p : Program} {l : Launch} {e : Env} {R : Room} {s : State} {m : MethodId} {args : Array Value} {below : List Frame} {meth : Method} {c : Code} {D : va_G} {A B : Nat → Prop} {Q : State → Prop} {cI cJ cZ : ClassId} {a_t a_ends a_there a_one a_two a_what a_piece a_kinds a_group a_many a_pieceOf a_numberOf a_ups a_jointUp a_partner a_beyonds a_gone : Nat} {thrown : Int32} {made : Int32} {there : Nat → Int32} {tree : Int32} {items : Int32} {pieces : Int32} {joints : Int32} {nodes : Int32} {x1 : Int32} (K : sk_C p s m args meth c c_Model_isEdge 2 "SkeletonTreeModel" D (tyl cI cJ cZ)) (hR1 : 0 ≤ R.frames) (hR2 : 0 ≤ R.locals) {post : Int32 → Prop} (hend : ∀ (ti pc : Nat) (r : Int32)  (lv : List (Nat × Value)), t_Model_isEdge[ti]? = some (pc, .ireturn, 1) → sk_b r → post r  → AW p l e R s m args below meth c D A B 2 Q 0 0 (w_Model_isEdge cI cJ cZ a_t a_ends a_there a_one a_two a_what a_piece a_kinds a_group a_many a_pieceOf a_numberOf a_ups a_jointUp a_partner a_beyonds a_gone thrown made there tree items pieces joints nodes) lv pc [.int r]) (h : wp_Model_isEdge made there x1 post) : AW p l e R s m args below meth c D A B 2 Q 0 0 (w_Model_isEdge cI cJ cZ a_t a_ends a_there a_one a_two a_what a_piece a_kinds a_group a_many a_pieceOf a_numberOf a_ups a_jointUp a_partner a_beyonds a_gone thrown made there tree items pieces joints nodes) [(0, .ref a_t), (1, .int x1)] 0 [] := by
  unfold wp_Model_isEdge at h
  refine A_iload_n K d_Model_isEdge 0 1 (pc' := 1) rfl rfl rfl rfl ?_
  refine A_if_lt K d_Model_isEdge 1 25 (pc' := 4) rfl rfl rfl (fun q => ?_) (fun q => ?_)
  · replace h := h.1 q
    refine A_iconst K d_Model_isEdge 13 (pc' := 26) (v := 0) rfl rfl (by decide) ?_
    exact hend 14 _ _ _ rfl (Or.inl rfl) h
  · replace h := h.2 q
    refine A_iload_n K d_Model_isEdge 2 1 (pc' := 5) rfl rfl rfl rfl ?_
    refine A_aload_n K d_Model_isEdge 3 0 (pc' := 6) rfl rfl rfl rfl ?_
    refine A_get K d_Model_isEdge 4 0 fl_Model_59 (pc' := 9) rfl rfl rfl rfl ?_
    refine A_icmp_ge K d_Model_isEdge 5 25 (pc' := 12) rfl rfl rfl (fun q => ?_) (fun q => ?_)
    · replace h := h.1 q
      refine A_iconst K d_Model_isEdge 13 (pc' := 26) (v := 0) rfl rfl (by decide) ?_
      exact hend 14 _ _ _ rfl (Or.inl rfl) h
    · replace h := h.2 q
      refine A_aload_n K d_Model_isEdge 6 0 (pc' := 13) rfl rfl rfl rfl ?_
      refine A_get K d_Model_isEdge 7 0 fl_Model_13 (pc' := 16) rfl rfl rfl rfl ?_
      refine A_iload_n K d_Model_isEdge 8 1 (pc' := 17) rfl rfl rfl rfl ?_
      refine A_zald K d_Model_isEdge 9 1 2 (pc' := 18) rfl rfl rfl rfl h.1 ?_
      replace h := h.2
      refine A_if_eq K d_Model_isEdge 10 25 (pc' := 21) rfl rfl rfl (fun q => ?_) (fun q => ?_)
      · replace h := h.1 q
        refine A_iconst K d_Model_isEdge 13 (pc' := 26) (v := 0) rfl rfl (by decide) ?_
        exact hend 14 _ _ _ rfl (Or.inl rfl) h
      · replace h := h.2 q
        refine A_iconst K d_Model_isEdge 11 (pc' := 22) (v := 1) rfl rfl (by decide) ?_
        refine A_goto K d_Model_isEdge 12 (pc' := 26) rfl rfl ?_
        exact hend 14 _ _ _ rfl (Or.inr rfl) h
theorem met_Model_isEdge (l : Launch) (D : va_G) (cI cJ cZ : ClassId) (a_t a_ends a_there a_one a_two a_what a_piece a_kinds a_group a_many a_pieceOf a_numberOf a_ups a_jointUp a_partner a_beyonds a_gone : Nat) (thrown : Int32) (made : Int32) (there : Nat → Int32) (tree : Int32) (items : Int32) (pieces : Int32) (joints : Int32) (nodes : Int32) (x1 : Int32) (post : Int32 → Prop) (sz : Nat) : Met l y_Model_isEdge (Cond.code y_Model_isEdge c_Model_isEdge 2 (Option.some Jvm.ClassFile.FieldType.boolean) :: GW) { frames := 0, cells := 0, slots := 0, locals := 0 } (va_Pc [.ref a_t, .int x1] (fun U => sk_P D (tyl cI cJ cZ) (w_Model_isEdge cI cJ cZ a_t a_ends a_there a_one a_two a_what a_piece a_kinds a_group a_many a_pieceOf a_numberOf a_ups a_jointUp a_partner a_beyonds a_gone thrown made there tree items pieces joints nodes) sz U ∧ wp_Model_isEdge made there x1 post)) (va_Qi (fun (r : Int32) (_ : Unit) => post r) (fun _ t => sk_B D (tyl cI cJ cZ) (w_Model_isEdge cI cJ cZ a_t a_ends a_there a_one a_two a_what a_piece a_kinds a_group a_many a_pieceOf a_numberOf a_ups a_jointUp a_partner a_beyonds a_gone thrown made there tree items pieces joints nodes) (fun _ => True) t) (fun q => sz ≤ q)) 0 0 (fun q => sz ≤ q) :=
  sk_introR (by decide) (Nat.le_of_ble_eq_true rfl) (fun p e s m below meth c K hr _ h => bd_Model_isEdge K (Nat.le_refl _) (Nat.le_refl _) (fun ti pc r  lv hd hb hp => A_zret K d_Model_isEdge ti hr (post := (fun (r : Int32) (_ : Unit) => post r)) (wl := fun (_ : Unit) => w_Model_isEdge cI cJ cZ a_t a_ends a_there a_one a_two a_what a_piece a_kinds a_group a_many a_pieceOf a_numberOf a_ups a_jointUp a_partner a_beyonds a_gone thrown made there tree items pieces joints nodes) () hd hb hp) h)
/-! SkeletonTreeModel.drop(I)V -/
def t_Model_drop : List (Nat × Instr × Nat) := [(0, .aload_n 0, 1), (1, .aload_n 0, 1), (2, .iload_n 1, 1), (3, .invokevirtual 78, 3), (6, .ifCond .ne 7, 3), (9, .iconst 1, 1), (10, .goto 4, 3), (13, .iconst 0, 1), (14, .iconst 0, 1), (15, .invokevirtual 70, 3), (18, .ifCond .ne 15, 3), (21, .aload_n 0, 1), (22, .getfield 13, 3), (25, .iload_n 1, 1), (26, .iconst 0, 1), (27, .bastore, 1), (28, .aload_n 0, 1), (29, .iconst 0, 1), (30, .putfield 74, 3), (33, .return_, 1)]
set_option maxRecDepth 100000 in
theorem d_Model_drop : sk_T c_Model_drop t_Model_drop := by unfold sk_T t_Model_drop; decide +kernel
def w_Model_drop (cI cJ cZ : ClassId) (a_t a_ends a_there a_one a_two a_what a_piece a_kinds a_group a_many a_pieceOf a_numberOf a_ups a_jointUp a_partner a_beyonds a_gone : Nat) (thrown : Int32) (made : Int32) (there : Nat → Int32) (tree : Int32) (items : Int32) (pieces : Int32) (joints : Int32) (nodes : Int32) : va_W := [(a_t, .inr (5, [.int thrown, .int made, .ref a_ends, .ref a_there, .int tree, .int items, .ref a_one, .ref a_two, .ref a_what, .ref a_piece, .int pieces, .int joints, .ref a_kinds, .ref a_group, .ref a_many, .int nodes, .ref a_pieceOf, .ref a_numberOf, .ref a_ups, .ref a_jointUp, .ref a_partner, .ref a_beyonds, .ref a_gone])), (a_there, .inl (cZ, 100, .inl there))]
def wp_Model_drop  (thrown : Int32) (made : Int32) (there : Nat → Int32) (tree : Int32) (x1 : Int32) (post : Int32 → (Nat → Int32) → Int32 → Prop) : Prop :=
  wp_Model_isEdge made there x1 (fun r_1 => jn1 (fun (z_2 : Int32) => wp_Model_refused thrown z_2 0 (fun r_6 thrown_5 => (¬ r_6 = 0 → post thrown_5 there tree) ∧ (r_6 = 0 → vp_in x1 100 ∧ ∀ there_7 : Nat → Int32, there_7 = upd there (ix x1) 0 → post thrown_5 there_7 0))) (fun (J_3 : Int32 → Prop) => (¬ r_1 = 0 → J_3 0) ∧ (r_1 = 0 → J_3 1)))
set_option maxHeartbeats 4000000 in
set_option maxRecDepth 100000 in
theorem bd_Model_drop {p : Program} {l : Launch} {e : Env} {R : Room} {s : State} {m : MethodId} {args : Array Value} {below : List Frame} {meth : Method} {c : Code} {D : va_G} {A B : Nat → Prop} {Q : State → Prop} {cI cJ cZ : ClassId} {a_t a_ends a_there a_one a_two a_what a_piece a_kinds a_group a_many a_pieceOf a_numberOf a_ups a_jointUp a_partner a_beyonds a_gone : Nat} {thrown : Int32} {made : Int32} {there : Nat → Int32} {tree : Int32} {items : Int32} {pieces : Int32} {joints : Int32} {nodes : Int32} {x1 : Int32} (K : sk_C p s m args meth c c_Model_drop 2 "SkeletonTreeModel" D (tyl cI cJ cZ)) (hR1 : 1 ≤ R.frames) (hR2 : 22 ≤ R.locals) (hBA : ∀ q : Nat, B q → A q) {post : Int32 → (Nat → Int32) → Int32 → Prop} (hend : ∀ (ti pc : Nat)  (y0 : Int32) (y1 : Nat → Int32) (y2 : Int32) (lv : List (Nat × Value)), t_Model_drop[ti]? = some (pc, .return_, 1) → post  y0 y1 y2 → AW p l e R s m args below meth c D A B 2 Q 0 0 (w_Model_drop cI cJ cZ a_t a_ends a_there a_one a_two a_what a_piece a_kinds a_group a_many a_pieceOf a_numberOf a_ups a_jointUp a_partner a_beyonds a_gone y0 made y1 y2 items pieces joints nodes) lv pc []) (h : wp_Model_drop thrown made there tree x1 post) : AW p l e R s m args below meth c D A B 2 Q 0 0 (w_Model_drop cI cJ cZ a_t a_ends a_there a_one a_two a_what a_piece a_kinds a_group a_many a_pieceOf a_numberOf a_ups a_jointUp a_partner a_beyonds a_gone thrown made there tree items pieces joints nodes) [(0, .ref a_t), (1, .int x1)] 0 [] := by
  unfold wp_Model_drop at h
  refine A_aload_n K d_Model_drop 0 0 (pc' := 1) rfl rfl rfl rfl ?_
  refine A_aload_n K d_Model_drop 1 0 (pc' := 2) rfl rfl rfl rfl ?_
  refine A_iload_n K d_Model_drop 2 1 (pc' := 3) rfl rfl rfl rfl ?_
  refine R_callV_i K d_Model_drop 3 [0, 1] (As := [.int x1]) (rest := [.ref a_t]) (pc' := 6) v_Model_78 ⟨rfl, rfl, Nat.le_trans (Nat.le_of_ble_eq_true rfl) hR1, Nat.le_trans (Nat.le_of_ble_eq_true rfl) hR2⟩ (fun sz => met_Model_isEdge l D cI cJ cZ a_t a_ends a_there a_one a_two a_what a_piece a_kinds a_group a_many a_pieceOf a_numberOf a_ups a_jointUp a_partner a_beyonds a_gone thrown made there tree items pieces joints nodes x1 _ sz) h rfl rfl rfl rfl rfl rfl (Nat.le_of_ble_eq_true rfl) ⟨Nat.zero_le _, Nat.zero_le _⟩ (q0 := 0) rfl rfl (fun r_1 h => ?_)
  refine jn1_use (fun (z_2 : Int32) => AW p l e R s m args below meth c D A B 2 Q 0 0 (w_Model_drop cI cJ cZ a_t a_ends a_there a_one a_two a_what a_piece a_kinds a_group a_many a_pieceOf a_numberOf a_ups a_jointUp a_partner a_beyonds a_gone thrown made there tree items pieces joints nodes) [(0, .ref a_t), (1, .int x1)] 14 [.int z_2, .ref a_t]) h ?_ ?_
  · intro z_2 h
    refine A_iconst K d_Model_drop 8 (pc' := 15) (v := 0) rfl rfl (by decide) ?_
    refine C_Vi1 K hBA d_Model_drop 9 [0] [some 0, none] (As := [.int z_2, .int 0]) (rest := []) (pc' := 18) (wl := fun thrown_5 => w_Model_refused cI cJ cZ a_t a_ends a_there a_one a_two a_what a_piece a_kinds a_group a_many a_pieceOf a_numberOf a_ups a_jointUp a_partner a_beyonds a_gone thrown_5 made tree items pieces joints nodes) (ws' := fun thrown_5 => w_Model_drop cI cJ cZ a_t a_ends a_there a_one a_two a_what a_piece a_kinds a_group a_many a_pieceOf a_numberOf a_ups a_jointUp a_partner a_beyonds a_gone thrown_5 made there tree items pieces joints nodes) v_Model_70 ⟨rfl, rfl, Nat.le_trans (Nat.le_of_ble_eq_true rfl) hR1, Nat.le_trans (Nat.le_of_ble_eq_true rfl) hR2⟩ (fun sz => met_Model_refused l D cI cJ cZ a_t a_ends a_there a_one a_two a_what a_piece a_kinds a_group a_many a_pieceOf a_numberOf a_ups a_jointUp a_partner a_beyonds a_gone thrown made tree items pieces joints nodes z_2 0 _ sz) h rfl rfl rfl rfl rfl (fun _ => rfl) rfl (by decide) (Nat.le_of_ble_eq_true rfl) ⟨Nat.zero_le _, Nat.zero_le _⟩ (q0 := 0) rfl rfl (fun _ => rfl) (fun r_6 thrown_5 h => ?_)
    refine A_if_ne K d_Model_drop 10 33 (pc' := 21) rfl rfl rfl (fun q => ?_) (fun q => ?_)
    · replace h := h.1 q
      exact hend 19 _ _ _ _ _ rfl h
    · replace h := h.2 q
      refine A_aload_n K d_Model_drop 11 0 (pc' := 22) rfl rfl rfl rfl ?_
      refine A_get K d_Model_drop 12 0 fl_Model_13 (pc' := 25) rfl rfl rfl rfl ?_
      refine A_iload_n K d_Model_drop 13 1 (pc' := 26) rfl rfl rfl rfl ?_
      refine A_iconst K d_Model_drop 14 (pc' := 27) (v := 0) rfl rfl (by decide) ?_
      refine A_zastN K hBA d_Model_drop 15 1 2 (pc' := 28) (ws' := fun there_7 => w_Model_drop cI cJ cZ a_t a_ends a_there a_one a_two a_what a_piece a_kinds a_group a_many a_pieceOf a_numberOf a_ups a_jointUp a_partner a_beyonds a_gone thrown_5 made there_7 tree items pieces joints nodes) rfl rfl rfl rfl h.1 rfl (fun _ => rfl) (fun there_7 e_8 => ?_)
      replace h := h.2 there_7 e_8
      refine A_aload_n K d_Model_drop 16 0 (pc' := 29) rfl rfl rfl rfl ?_
      refine A_iconst K d_Model_drop 17 (pc' := 30) (v := 0) rfl rfl (by decide) ?_
      refine A_put K hBA d_Model_drop 18 0 fp_Model_74 (pc' := 33) (ws' := w_Model_drop cI cJ cZ a_t a_ends a_there a_one a_two a_what a_piece a_kinds a_group a_many a_pieceOf a_numberOf a_ups a_jointUp a_partner a_beyonds a_gone thrown_5 made there_7 0 items pieces joints nodes) rfl rfl rfl (Nat.le_of_ble_eq_true rfl) rfl rfl rfl ?_
      exact hend 19 _ _ _ _ _ rfl h
  · intro J_3 hJ_4 h
    refine A_if_ne K d_Model_drop 4 13 (pc' := 9) rfl rfl rfl (fun q => ?_) (fun q => ?_)
    · replace h := h.1 q
      refine A_iconst K d_Model_drop 7 (pc' := 14) (v := 0) rfl rfl (by decide) ?_
      refine A_lv [0, 1] rfl ?_
      exact hJ_4 _ h
    · replace h := h.2 q
      refine A_iconst K d_Model_drop 5 (pc' := 10) (v := 1) rfl rfl (by decide) ?_
      refine A_goto K d_Model_drop 6 (pc' := 14) rfl rfl ?_
      refine A_lv [0, 1] rfl ?_
      exact hJ_4 _ h
theorem met_Model_drop (l : Launch) (D : va_G) (cI cJ cZ : ClassId) (a_t a_ends a_there a_one a_two a_what a_piece a_kinds a_group a_many a_pieceOf a_numberOf a_ups a_jointUp a_partner a_beyonds a_gone : Nat) (thrown : Int32) (made : Int32) (there : Nat → Int32) (tree : Int32) (items : Int32) (pieces : Int32) (joints : Int32) (nodes : Int32) (x1 : Int32) (post : Int32 → (Nat → Int32) → Int32 → Prop) (sz : Nat) : Met l y_Model_drop (Cond.code y_Model_drop c_Model_drop 2 (Option.none : Option Jvm.ClassFile.FieldType) :: GW) { frames := 1, cells := 0, slots := 0, locals := 22 } (va_Pc [.ref a_t, .int x1] (fun U => sk_P D (tyl cI cJ cZ) (w_Model_drop cI cJ cZ a_t a_ends a_there a_one a_two a_what a_piece a_kinds a_group a_many a_pieceOf a_numberOf a_ups a_jointUp a_partner a_beyonds a_gone thrown made there tree items pieces joints nodes) sz U ∧ wp_Model_drop thrown made there tree x1 post)) (va_Qv (fun (u : Int32 × (Nat → Int32) × Int32) => post  u.1 u.2.1 u.2.2) (fun u t => sk_B D (tyl cI cJ cZ) (w_Model_drop cI cJ cZ a_t a_ends a_there a_one a_two a_what a_piece a_kinds a_group a_many a_pieceOf a_numberOf a_ups a_jointUp a_partner a_beyonds a_gone u.1 made u.2.1 u.2.2 items pieces joints nodes) (va_A (w_Model_drop cI cJ cZ a_t a_ends a_there a_one a_two a_what a_piece a_kinds a_group a_many a_pieceOf a_numberOf a_ups a_jointUp a_partner a_beyonds a_gone thrown made there tree items pieces joints nodes) sz) t) (va_A (w_Model_drop cI cJ cZ a_t a_ends a_there a_one a_two a_what a_piece a_kinds a_group a_many a_pieceOf a_numberOf a_ups a_jointUp a_partner a_beyonds a_gone thrown made there tree items pieces joints nodes) sz)) 0 0 (va_A (w_Model_drop cI cJ cZ a_t a_ends a_there a_one a_two a_what a_piece a_kinds a_group a_many a_pieceOf a_numberOf a_ups a_jointUp a_partner a_beyonds a_gone thrown made there tree items pieces joints nodes) sz) :=
  sk_intro (by decide) (Nat.le_of_ble_eq_true rfl) (fun p e s m below meth c K hr _ h => bd_Model_drop K (Nat.le_refl _) (Nat.le_refl _) (fun _ z => z) (fun ti pc y0 y1 y2 lv hd hp => A_vret K d_Model_drop ti hr (post := (fun (u : Int32 × (Nat → Int32) × Int32) => post  u.1 u.2.1 u.2.2)) (wl := fun (u : Int32 × (Nat → Int32) × Int32) => w_Model_drop cI cJ cZ a_t a_ends a_there a_one a_two a_what a_piece a_kinds a_group a_many a_pieceOf a_numberOf a_ups a_jointUp a_partner a_beyonds a_gone u.1 made u.2.1 u.2.2 items pieces joints nodes) (y0, y1, y2) hd hp) h)
/-! SkeletonTreeModel.edges()I -/
def t_Model_edges : List (Nat × Instr × Nat) := [(0, .aload_n 0, 1), (1, .iconst 0, 1), (2, .putfield 63, 3), (5, .iconst 0, 1), (6, .istore_n 1, 1), (7, .iconst 0, 1), (8, .istore_n 2, 1), (9, .iload_n 2, 1), (10, .aload_n 0, 1), (11, .getfield 59, 3), (14, .if_icmp .ge 26, 3), (17, .aload_n 0, 1), (18, .getfield 13, 3), (21, .iload_n 2, 1), (22, .baload, 1), (23, .ifCond .eq 9, 3), (26, .iload_n 1, 1), (27, .iconst 1, 1), (28, .iadd, 1), (29, .goto 4, 3), (32, .iload_n 1, 1), (33, .istore_n 1, 1), (34, .iinc 2 1, 3), (37, .goto (-28), 3), (40, .iload_n 1, 1), (41, .ireturn, 1)]
set_option maxRecDepth 100000 in
theorem d_Model_edges : sk_T c_Model_edges t_Model_edges := by unfold sk_T t_Model_edges; decide +kernel
def w_Model_edges (cI cJ cZ : ClassId) (a_t a_ends a_there a_one a_two a_what a_piece a_kinds a_group a_many a_pieceOf a_numberOf a_ups a_jointUp a_partner a_beyonds a_gone : Nat) (thrown : Int32) (made : Int32) (there : Nat → Int32) (tree : Int32) (items : Int32) (pieces : Int32) (joints : Int32) (nodes : Int32) : va_W := [(a_t, .inr (5, [.int thrown, .int made, .ref a_ends, .ref a_there, .int tree, .int items, .ref a_one, .ref a_two, .ref a_what, .ref a_piece, .int pieces, .int joints, .ref a_kinds, .ref a_group, .ref a_many, .int nodes, .ref a_pieceOf, .ref a_numberOf, .ref a_ups, .ref a_jointUp, .ref a_partner, .ref a_beyonds, .ref a_gone])), (a_there, .inl (cZ, 100, .inl there))]
def wp_Model_edges  (thrown : Int32) (made : Int32) (there : Nat → Int32)  (post : Int32 → Int32 → Prop) : Prop :=
  ∃ n, sL2 (fun (K_3 : Int32 → Int32 → Prop) (i1_1 : Int32) (i2_2 : Int32) => (made ≤ i2_2 → post i1_1 0) ∧ (¬ made ≤ i2_2 → vp_in i2_2 100 ∧ ((there (ix i2_2)) = 0 → K_3 i1_1 (i2_2 + 1)) ∧ (¬ (there (ix i2_2)) = 0 → K_3 (i1_1 + 1) (i2_2 + 1)))) n 0 0
set_option maxHeartbeats 4000000 in
set_option maxRecDepth 100000 in
theorem bd_Model_edges {p : Program} {l : Launch} {e : Env} {R : Room} {s : State} {m : MethodId} {args : Array Value} {below : List Frame} {meth : Method} {c : Code} {D : va_G} {A B : Nat → Prop} {Q : State → Prop} {cI cJ cZ : ClassId} {a_t a_ends a_there a_one a_two a_what a_piece a_kinds a_group a_many a_pieceOf a_numberOf a_ups a_jointUp a_partner a_beyonds a_gone : Nat} {thrown : Int32} {made : Int32} {there : Nat → Int32} {tree : Int32} {items : Int32} {pieces : Int32} {joints : Int32} {nodes : Int32}  (K : sk_C p s m args meth c c_Model_edges 3 "SkeletonTreeModel" D (tyl cI cJ cZ)) (hR1 : 0 ≤ R.frames) (hR2 : 0 ≤ R.locals) (hBA : ∀ q : Nat, B q → A q) {post : Int32 → Int32 → Prop} (hend : ∀ (ti pc : Nat) (r : Int32) (y0 : Int32) (lv : List (Nat × Value)), t_Model_edges[ti]? = some (pc, .ireturn, 1) → post r y0 → AW p l e R s m args below meth c D A B 3 Q 0 0 (w_Model_edges cI cJ cZ a_t a_ends a_there a_one a_two a_what a_piece a_kinds a_group a_many a_pieceOf a_numberOf a_ups a_jointUp a_partner a_beyonds a_gone y0 made there tree items pieces joints nodes) lv pc [.int r]) (h : wp_Model_edges thrown made there post) : AW p l e R s m args below meth c D A B 3 Q 0 0 (w_Model_edges cI cJ cZ a_t a_ends a_there a_one a_two a_what a_piece a_kinds a_group a_many a_pieceOf a_numberOf a_ups a_jointUp a_partner a_beyonds a_gone thrown made there tree items pieces joints nodes) [(0, .ref a_t)] 0 [] := by
  unfold wp_Model_edges at h
  refine A_aload_n K d_Model_edges 0 0 (pc' := 1) rfl rfl rfl rfl ?_
  refine A_iconst K d_Model_edges 1 (pc' := 2) (v := 0) rfl rfl (by decide) ?_
  refine A_put K hBA d_Model_edges 2 0 fp_Model_63 (pc' := 5) (ws' := w_Model_edges cI cJ cZ a_t a_ends a_there a_one a_two a_what a_piece a_kinds a_group a_many a_pieceOf a_numberOf a_ups a_jointUp a_partner a_beyonds a_gone 0 made there tree items pieces joints nodes) rfl rfl rfl (Nat.le_of_ble_eq_true rfl) rfl rfl rfl ?_
  refine A_iconst K d_Model_edges 3 (pc' := 6) (v := 0) rfl rfl (by decide) ?_
  refine A_istore_n K d_Model_edges 4 (pc' := 7) (lv' := [(1, .int 0), (0, .ref a_t)]) rfl rfl rfl (by decide) rfl ?_
  refine A_iconst K d_Model_edges 5 (pc' := 8) (v := 0) rfl rfl (by decide) ?_
  refine A_istore_n K d_Model_edges 6 (pc' := 9) (lv' := [(2, .int 0), (1, .int 0), (0, .ref a_t)]) rfl rfl rfl (by decide) rfl ?_
  refine A_lv [2, 1, 0] rfl ?_
  obtain ⟨n_5, h⟩ := h
  refine sL2_ind (fun (i1_1 : Int32) (i2_2 : Int32) => AW p l e R s m args below meth c D A B 3 Q 0 0 (w_Model_edges cI cJ cZ a_t a_ends a_there a_one a_two a_what a_piece a_kinds a_group a_many a_pieceOf a_numberOf a_ups a_jointUp a_partner a_beyonds a_gone 0 made there tree items pieces joints nodes) [(0, .ref a_t), (1, .int i1_1), (2, .int i2_2)] 9 []) ?_ n_5 _ _ h
  intro K_3 ih_4 i1_1 i2_2 h
  refine A_iload_n K d_Model_edges 7 2 (pc' := 10) rfl rfl rfl rfl ?_
  refine A_aload_n K d_Model_edges 8 0 (pc' := 11) rfl rfl rfl rfl ?_
  refine A_get K d_Model_edges 9 0 fl_Model_59 (pc' := 14) rfl rfl rfl rfl ?_
  refine A_icmp_ge K d_Model_edges 10 40 (pc' := 17) rfl rfl rfl (fun q => ?_) (fun q => ?_)
  · replace h := h.1 q
    refine A_iload_n K d_Model_edges 24 1 (pc' := 41) rfl rfl rfl rfl ?_
    exact hend 25 _ _ _ _ rfl h
  · replace h := h.2 q
    refine A_aload_n K d_Model_edges 11 0 (pc' := 18) rfl rfl rfl rfl ?_
    refine A_get K d_Model_edges 12 0 fl_Model_13 (pc' := 21) rfl rfl rfl rfl ?_
    refine A_iload_n K d_Model_edges 13 2 (pc' := 22) rfl rfl rfl rfl ?_
    refine A_zald K d_Model_edges 14 1 2 (pc' := 23) rfl rfl rfl rfl h.1 ?_
    replace h := h.2
    refine A_if_eq K d_Model_edges 15 32 (pc' := 26) rfl rfl rfl (fun q => ?_) (fun q => ?_)
    · replace h := h.1 q
      refine A_iload_n K d_Model_edges 20 1 (pc' := 33) rfl rfl rfl rfl ?_
      refine A_istore_n K d_Model_edges 21 (pc' := 34) (lv' := [(1, .int i1_1), (0, .ref a_t), (2, .int i2_2)]) rfl rfl rfl (by decide) rfl ?_
      refine A_iinc K d_Model_edges 22 2 (pc' := 37) (v := i2_2 + 1) (lv' := [(2, .int (i2_2 + 1)), (1, .int i1_1), (0, .ref a_t)]) rfl rfl rfl rfl (by decide) rfl ?_
      refine A_goto K d_Model_edges 23 (pc' := 9) rfl rfl ?_
      refine A_lv [2, 1, 0] rfl ?_
      exact ih_4 _ _ h
    · replace h := h.2 q
      refine A_iload_n K d_Model_edges 16 1 (pc' := 27) rfl rfl rfl rfl ?_
      refine A_iconst K d_Model_edges 17 (pc' := 28) (v := 1) rfl rfl (by decide) ?_
      refine A_iadd K d_Model_edges 18 (pc' := 29) rfl rfl ?_
      refine A_goto K d_Model_edges 19 (pc' := 33) rfl rfl ?_
      refine A_istore_n K d_Model_edges 21 (pc' := 34) (lv' := [(1, .int (i1_1 + 1)), (0, .ref a_t), (2, .int i2_2)]) rfl rfl rfl (by decide) rfl ?_
      refine A_iinc K d_Model_edges 22 2 (pc' := 37) (v := i2_2 + 1) (lv' := [(2, .int (i2_2 + 1)), (1, .int (i1_1 + 1)), (0, .ref a_t)]) rfl rfl rfl rfl (by decide) rfl ?_
      refine A_goto K d_Model_edges 23 (pc' := 9) rfl rfl ?_
      refine A_lv [2, 1, 0] rfl ?_
      exact ih_4 _ _ h
theorem met_Model_edges (l : Launch) (D : va_G) (cI cJ cZ : ClassId) (a_t a_ends a_there a_one a_two a_what a_piece a_kinds a_group a_many a_pieceOf a_numberOf a_ups a_jointUp a_partner a_beyonds a_gone : Nat) (thrown : Int32) (made : Int32) (there : Nat → Int32) (tree : Int32) (items : Int32) (pieces : Int32) (joints : Int32) (nodes : Int32)  (post : Int32 → Int32 → Prop) (sz : Nat) : Met l y_Model_edges (Cond.code y_Model_edges c_Model_edges 3 (Option.some Jvm.ClassFile.FieldType.int) :: GW) { frames := 0, cells := 0, slots := 0, locals := 0 } (va_Pc [.ref a_t] (fun U => sk_P D (tyl cI cJ cZ) (w_Model_edges cI cJ cZ a_t a_ends a_there a_one a_two a_what a_piece a_kinds a_group a_many a_pieceOf a_numberOf a_ups a_jointUp a_partner a_beyonds a_gone thrown made there tree items pieces joints nodes) sz U ∧ wp_Model_edges thrown made there post)) (va_Qi (fun (r : Int32) (u : Int32) => post r u) (fun u t => sk_B D (tyl cI cJ cZ) (w_Model_edges cI cJ cZ a_t a_ends a_there a_one a_two a_what a_piece a_kinds a_group a_many a_pieceOf a_numberOf a_ups a_jointUp a_partner a_beyonds a_gone u made there tree items pieces joints nodes) (va_A (w_Model_edges cI cJ cZ a_t a_ends a_there a_one a_two a_what a_piece a_kinds a_group a_many a_pieceOf a_numberOf a_ups a_jointUp a_partner a_beyonds a_gone thrown made there tree items pieces joints nodes) sz) t) (va_A (w_Model_edges cI cJ cZ a_t a_ends a_there a_one a_two a_what a_piece a_kinds a_group a_many a_pieceOf a_numberOf a_ups a_jointUp a_partner a_beyonds a_gone thrown made there tree items pieces joints nodes) sz)) 0 0 (va_A (w_Model_edges cI cJ cZ a_t a_ends a_there a_one a_two a_what a_piece a_kinds a_group a_many a_pieceOf a_numberOf a_ups a_jointUp a_partner a_beyonds a_gone thrown made there tree items pieces joints nodes) sz) :=
  sk_intro (by decide) (Nat.le_of_ble_eq_true rfl) (fun p e s m below meth c K hr _ h => bd_Model_edges K (Nat.le_refl _) (Nat.le_refl _) (fun _ z => z) (fun ti pc r y0 lv hd hp => A_iret K d_Model_edges ti hr (post := (fun (r : Int32) (u : Int32) => post r u)) (wl := fun (u : Int32) => w_Model_edges cI cJ cZ a_t a_ends a_there a_one a_two a_what a_piece a_kinds a_group a_many a_pieceOf a_numberOf a_ups a_jointUp a_partner a_beyonds a_gone u made there tree items pieces joints nodes) y0 hd hp) h)
/-! SkeletonTreeModel.isUsed(I)Z -/
def t_Model_isUsed : List (Nat × Instr × Nat) := [(0, .iconst 0, 1), (1, .istore_n 2, 1), (2, .iload_n 2, 1), (3, .aload_n 0, 1), (4, .getfield 59, 3), (7, .if_icmp .ge 46, 3), (10, .aload_n 0, 1), (11, .getfield 13, 3), (14, .iload_n 2, 1), (15, .baload, 1), (16, .ifCond .eq 31, 3), (19, .aload_n 0, 1), (20, .getfield 7, 3), (23, .iconst 2, 1), (24, .iload_n 2, 1), (25, .imul, 1), (26, .iaload, 1), (27, .iload_n 1, 1), (28, .if_icmp .eq 17, 3), (31, .aload_n 0, 1), (32, .getfield 7, 3), (35, .iconst 2, 1), (36, .iload_n 2, 1), (37, .imul, 1), (38, .iconst 1, 1), (39, .iadd, 1), (40, .iaload, 1), (41, .iload_n 1, 1), (42, .if_icmp .ne 5, 3), (45, .iconst 1, 1), (46, .ireturn, 1), (47, .iinc 2 1, 3), (50, .goto (-48), 3), (53, .iconst 0, 1), (54, .ireturn, 1)]
set_option maxRecDepth 100000 in
theorem d_Model_isUsed : sk_T c_Model_isUsed t_Model_isUsed := by unfold sk_T t_Model_isUsed; decide +kernel
def w_Model_isUsed (cI cJ cZ : ClassId) (a_t a_ends a_there a_one a_two a_what a_piece a_kinds a_group a_many a_pieceOf a_numberOf a_ups a_jointUp a_partner a_beyonds a_gone : Nat) (thrown : Int32) (made : Int32) (ends : Nat → Int32) (there : Nat → Int32) (tree : Int32) (items : Int32) (pieces : Int32) (joints : Int32) (nodes : Int32) : va_W := [(a_t, .inr (5, [.int thrown, .int made, .ref a_ends, .ref a_there, .int tree, .int items, .ref a_one, .ref a_two, .ref a_what, .ref a_piece, .int pieces, .int joints, .ref a_kinds, .ref a_group, .ref a_many, .int nodes, .ref a_pieceOf, .ref a_numberOf, .ref a_ups, .ref a_jointUp, .ref a_partner, .ref a_beyonds, .ref a_gone])), (a_ends, .inl (cI, 200, .inl ends)), (a_there, .inl (cZ, 100, .inl there))]
def wp_Model_isUsed  (made : Int32) (ends : Nat → Int32) (there : Nat → Int32) (x1 : Int32) (post : Int32 → Prop) : Prop :=
  ∃ n, sL1 (fun (K_2 : Int32 → Prop) (i2_1 : Int32) => (made ≤ i2_1 → post 0 ) ∧ (¬ made ≤ i2_1 → vp_in i2_1 100 ∧ ((there (ix i2_1)) = 0 → K_2 (i2_1 + 1)) ∧ (¬ (there (ix i2_1)) = 0 → vp_in (2 * i2_1) 200 ∧ ((ends (ix (2 * i2_1))) = x1 → post 1 ) ∧ (¬ (ends (ix (2 * i2_1))) = x1 → vp_in ((2 * i2_1) + 1) 200 ∧ (¬ (ends (ix ((2 * i2_1) + 1))) = x1 → K_2 (i2_1 + 1)) ∧ ((ends (ix ((2 * i2_1) + 1))) = x1 → post 1 ))))) n 0
set_option maxHeartbeats 4000000 in
set_option maxRecDepth 100000 in
theorem bd_Model_isUsed {p : Program} {l : Launch} {e : Env} {R : Room} {s : State} {m : MethodId} {args : Array Value} {below : List Frame} {meth : Method} {c : Code} {D : va_G} {A B : Nat → Prop} {Q : State → Prop} {cI cJ cZ : ClassId} {a_t a_ends a_there a_one a_two a_what a_piece a_kinds a_group a_many a_pieceOf a_numberOf a_ups a_jointUp a_partner a_beyonds a_gone : Nat} {thrown : Int32} {made : Int32} {ends : Nat → Int32} {there : Nat → Int32} {tree : Int32} {items : Int32} {pieces : Int32} {joints : Int32} {nodes : Int32} {x1 : Int32} (K : sk_C p s m args meth c c_Model_isUsed 3 "SkeletonTreeModel" D (tyl cI cJ cZ)) (hR1 : 0 ≤ R.frames) (hR2 : 0 ≤ R.locals) {post : Int32 → Prop} (hend : ∀ (ti pc : Nat) (r : Int32)  (lv : List (Nat × Value)), t_Model_isUsed[ti]? = some (pc, .ireturn, 1) → sk_b r → post r  → AW p l e R s m args below meth c D A B 3 Q 0 0 (w_Model_isUsed cI cJ cZ a_t a_ends a_there a_one a_two a_what a_piece a_kinds a_group a_many a_pieceOf a_numberOf a_ups a_jointUp a_partner a_beyonds a_gone thrown made ends there tree items pieces joints nodes) lv pc [.int r]) (h : wp_Model_isUsed made ends there x1 post) : AW p l e R s m args below meth c D A B 3 Q 0 0 (w_Model_isUsed cI cJ cZ a_t a_ends a_there a_one a_two a_what a_piece a_kinds a_group a_many a_pieceOf a_numberOf a_ups a_jointUp a_partner a_beyonds a_gone thrown made ends there tree items pieces joints nodes) [(0, .ref a_t), (1, .int x1)] 0 [] := by
  unfold wp_Model_isUsed at h
  refine A_iconst K d_Model_isUsed 0 (pc' := 1) (v := 0) rfl rfl (by decide) ?_
  refine A_istore_n K d_Model_isUsed 1 (pc' := 2) (lv' := [(2, .int 0), (0, .ref a_t), (1, .int x1)]) rfl rfl rfl (by decide) rfl ?_
  refine A_lv [1, 2, 0] rfl ?_
  obtain ⟨n_4, h⟩ := h
  refine sL1_ind (fun (i2_1 : Int32) => AW p l e R s m args below meth c D A B 3 Q 0 0 (w_Model_isUsed cI cJ cZ a_t a_ends a_there a_one a_two a_what a_piece a_kinds a_group a_many a_pieceOf a_numberOf a_ups a_jointUp a_partner a_beyonds a_gone thrown made ends there tree items pieces joints nodes) [(0, .ref a_t), (1, .int x1), (2, .int i2_1)] 2 []) ?_ n_4 _ h
  intro K_2 ih_3 i2_1 h
  refine A_iload_n K d_Model_isUsed 2 2 (pc' := 3) rfl rfl rfl rfl ?_
  refine A_aload_n K d_Model_isUsed 3 0 (pc' := 4) rfl rfl rfl rfl ?_
  refine A_get K d_Model_isUsed 4 0 fl_Model_59 (pc' := 7) rfl rfl rfl rfl ?_
  refine A_icmp_ge K d_Model_isUsed 5 53 (pc' := 10) rfl rfl rfl (fun q => ?_) (fun q => ?_)
  · replace h := h.1 q
    refine A_iconst K d_Model_isUsed 33 (pc' := 54) (v := 0) rfl rfl (by decide) ?_
    exact hend 34 _ _ _ rfl (Or.inl rfl) h
  · replace h := h.2 q
    refine A_aload_n K d_Model_isUsed 6 0 (pc' := 11) rfl rfl rfl rfl ?_
    refine A_get K d_Model_isUsed 7 0 fl_Model_13 (pc' := 14) rfl rfl rfl rfl ?_
    refine A_iload_n K d_Model_isUsed 8 2 (pc' := 15) rfl rfl rfl rfl ?_
    refine A_zald K d_Model_isUsed 9 2 2 (pc' := 16) rfl rfl rfl rfl h.1 ?_
    replace h := h.2
    refine A_if_eq K d_Model_isUsed 10 47 (pc' := 19) rfl rfl rfl (fun q => ?_) (fun q => ?_)
    · replace h := h.1 q
      refine A_iinc K d_Model_isUsed 31 2 (pc' := 50) (v := i2_1 + 1) (lv' := [(2, .int (i2_1 + 1)), (0, .ref a_t), (1, .int x1)]) rfl rfl rfl rfl (by decide) rfl ?_
      refine A_goto K d_Model_isUsed 32 (pc' := 2) rfl rfl ?_
      refine A_lv [1, 2, 0] rfl ?_
      exact ih_3 _ h
    · replace h := h.2 q
      refine A_aload_n K d_Model_isUsed 11 0 (pc' := 20) rfl rfl rfl rfl ?_
      refine A_get K d_Model_isUsed 12 0 fl_Model_7 (pc' := 23) rfl rfl rfl rfl ?_
      refine A_iconst K d_Model_isUsed 13 (pc' := 24) (v := 2) rfl rfl (by decide) ?_
      refine A_iload_n K d_Model_isUsed 14 2 (pc' := 25) rfl rfl rfl rfl ?_
      refine A_imul K d_Model_isUsed 15 (pc' := 26) rfl rfl ?_
      refine A_iald K d_Model_isUsed 16 1 0 (pc' := 27) rfl rfl rfl rfl h.1 ?_
      replace h := h.2
      refine A_iload_n K d_Model_isUsed 17 1 (pc' := 28) rfl rfl rfl rfl ?_
      refine A_icmp_eq K d_Model_isUsed 18 45 (pc' := 31) rfl rfl rfl (fun q => ?_) (fun q => ?_)
      · replace h := h.1 q
        refine A_iconst K d_Model_isUsed 29 (pc' := 46) (v := 1) rfl rfl (by decide) ?_
        exact hend 30 _ _ _ rfl (Or.inr rfl) h
      · replace h := h.2 q
        refine A_aload_n K d_Model_isUsed 19 0 (pc' := 32) rfl rfl rfl rfl ?_
        refine A_get K d_Model_isUsed 20 0 fl_Model_7 (pc' := 35) rfl rfl rfl rfl ?_
        refine A_iconst K d_Model_isUsed 21 (pc' := 36) (v := 2) rfl rfl (by decide) ?_
        refine A_iload_n K d_Model_isUsed 22 2 (pc' := 37) rfl rfl rfl rfl ?_
        refine A_imul K d_Model_isUsed 23 (pc' := 38) rfl rfl ?_
        refine A_iconst K d_Model_isUsed 24 (pc' := 39) (v := 1) rfl rfl (by decide) ?_
        refine A_iadd K d_Model_isUsed 25 (pc' := 40) rfl rfl ?_
        refine A_iald K d_Model_isUsed 26 1 0 (pc' := 41) rfl rfl rfl rfl h.1 ?_
        replace h := h.2
        refine A_iload_n K d_Model_isUsed 27 1 (pc' := 42) rfl rfl rfl rfl ?_
        refine A_icmp_ne K d_Model_isUsed 28 47 (pc' := 45) rfl rfl rfl (fun q => ?_) (fun q => ?_)
        · replace h := h.1 q
          refine A_iinc K d_Model_isUsed 31 2 (pc' := 50) (v := i2_1 + 1) (lv' := [(2, .int (i2_1 + 1)), (0, .ref a_t), (1, .int x1)]) rfl rfl rfl rfl (by decide) rfl ?_
          refine A_goto K d_Model_isUsed 32 (pc' := 2) rfl rfl ?_
          refine A_lv [1, 2, 0] rfl ?_
          exact ih_3 _ h
        · replace h := h.2 q
          refine A_iconst K d_Model_isUsed 29 (pc' := 46) (v := 1) rfl rfl (by decide) ?_
          exact hend 30 _ _ _ rfl (Or.inr rfl) h
theorem met_Model_isUsed (l : Launch) (D : va_G) (cI cJ cZ : ClassId) (a_t a_ends a_there a_one a_two a_what a_piece a_kinds a_group a_many a_pieceOf a_numberOf a_ups a_jointUp a_partner a_beyonds a_gone : Nat) (thrown : Int32) (made : Int32) (ends : Nat → Int32) (there : Nat → Int32) (tree : Int32) (items : Int32) (pieces : Int32) (joints : Int32) (nodes : Int32) (x1 : Int32) (post : Int32 → Prop) (sz : Nat) : Met l y_Model_isUsed (Cond.code y_Model_isUsed c_Model_isUsed 3 (Option.some Jvm.ClassFile.FieldType.boolean) :: GW) { frames := 0, cells := 0, slots := 0, locals := 0 } (va_Pc [.ref a_t, .int x1] (fun U => sk_P D (tyl cI cJ cZ) (w_Model_isUsed cI cJ cZ a_t a_ends a_there a_one a_two a_what a_piece a_kinds a_group a_many a_pieceOf a_numberOf a_ups a_jointUp a_partner a_beyonds a_gone thrown made ends there tree items pieces joints nodes) sz U ∧ wp_Model_isUsed made ends there x1 post)) (va_Qi (fun (r : Int32) (_ : Unit) => post r) (fun _ t => sk_B D (tyl cI cJ cZ) (w_Model_isUsed cI cJ cZ a_t a_ends a_there a_one a_two a_what a_piece a_kinds a_group a_many a_pieceOf a_numberOf a_ups a_jointUp a_partner a_beyonds a_gone thrown made ends there tree items pieces joints nodes) (fun _ => True) t) (fun q => sz ≤ q)) 0 0 (fun q => sz ≤ q) :=
  sk_introR (by decide) (Nat.le_of_ble_eq_true rfl) (fun p e s m below meth c K hr _ h => bd_Model_isUsed K (Nat.le_refl _) (Nat.le_refl _) (fun ti pc r  lv hd hb hp => A_zret K d_Model_isUsed ti hr (post := (fun (r : Int32) (_ : Unit) => post r)) (wl := fun (_ : Unit) => w_Model_isUsed cI cJ cZ a_t a_ends a_there a_one a_two a_what a_piece a_kinds a_group a_many a_pieceOf a_numberOf a_ups a_jointUp a_partner a_beyonds a_gone thrown made ends there tree items pieces joints nodes) () hd hb hp) h)
/-! SkeletonTreeModel.same(II)V -/
def t_Model_same : List (Nat × Instr × Nat) := [(0, .aload_n 0, 1), (1, .getfield 32, 3), (4, .iload_n 1, 1), (5, .iaload, 1), (6, .istore_n 3, 1), (7, .aload_n 0, 1), (8, .getfield 32, 3), (11, .iload_n 2, 1), (12, .iaload, 1), (13, .istore 4, 2), (15, .iconst 0, 1), (16, .istore 5, 2), (18, .iload 5, 2), (20, .bipush 40, 2), (22, .if_icmp .ge 39, 3), (25, .aload_n 0, 1), (26, .getfield 32, 3), (29, .iload 5, 2), (31, .aload_n 0, 1), (32, .getfield 32, 3), (35, .iload 5, 2), (37, .iaload, 1), (38, .iload_n 3, 1), (39, .if_icmp .ne 8, 3), (42, .iload 4, 2), (44, .goto 10, 3), (47, .aload_n 0, 1), (48, .getfield 32, 3), (51, .iload 5, 2), (53, .iaload, 1), (54, .iastore, 1), (55, .iinc 5 1, 3), (58, .goto (-40), 3), (61, .return_, 1)]
set_option maxRecDepth 100000 in
theorem d_Model_same : sk_T c_Model_same t_Model_same := by unfold sk_T t_Model_same; decide +kernel
def w_Model_same (cI cJ cZ : ClassId) (a_t a_ends a_there a_one a_two a_what a_piece a_kinds a_group a_many a_pieceOf a_numberOf a_ups a_jointUp a_partner a_beyonds a_gone : Nat) (thrown : Int32) (made : Int32) (tree : Int32) (items : Int32) (pieces : Int32) (joints : Int32) (group : Nat → Int32) (nodes : Int32) : va_W := [(a_t, .inr (5, [.int thrown, .int made, .ref a_ends, .ref a_there, .int tree, .int items, .ref a_one, .ref a_two, .ref a_what, .ref a_piece, .int pieces, .int joints, .ref a_kinds, .ref a_group, .ref a_many, .int nodes, .ref a_pieceOf, .ref a_numberOf, .ref a_ups, .ref a_jointUp, .ref a_partner, .ref a_beyonds, .ref a_gone])), (a_group, .inl (cI, 40, .inl group))]
def wp_Model_same  (group : Nat → Int32) (x1 : Int32) (x2 : Int32) (post : (Nat → Int32) → Prop) : Prop :=
  vp_in x1 40 ∧ vp_in x2 40 ∧ ∃ n, sL2 (fun (K_3 : Int32 → (Nat → Int32) → Prop) (i5_1 : Int32) (group_2 : Nat → Int32) => (40 ≤ i5_1 → post group_2) ∧ (¬ 40 ≤ i5_1 → vp_in i5_1 40 ∧ (¬ (group_2 (ix i5_1)) = (group (ix x1)) → vp_in i5_1 40 ∧ vp_in i5_1 40 ∧ ∀ group_6 : Nat → Int32, group_6 = upd group_2 (ix i5_1) (group_2 (ix i5_1)) → K_3 (i5_1 + 1) group_6) ∧ ((group_2 (ix i5_1)) = (group (ix x1)) → vp_in i5_1 40 ∧ ∀ group_8 : Nat → Int32, group_8 = upd group_2 (ix i5_1) (group (ix x2)) → K_3 (i5_1 + 1) group_8))) n 0 group
set_option maxHeartbeats 4000000 in
set_option maxRecDepth 100000 in
theorem bd_Model_same {p : Program} {l : Launch} {e : Env} {R : Room} {s : State} {m : MethodId} {args : Array Value} {below : List Frame} {meth : Method} {c : Code} {D : va_G} {A B : Nat → Prop} {Q : State → Prop} {cI cJ cZ : ClassId} {a_t a_ends a_there a_one a_two a_what a_piece a_kinds a_group a_many a_pieceOf a_numberOf a_ups a_jointUp a_partner a_beyonds a_gone : Nat} {thrown : Int32} {made : Int32} {tree : Int32} {items : Int32} {pieces : Int32} {joints : Int32} {group : Nat → Int32} {nodes : Int32} {x1 : Int32} {x2 : Int32} (K : sk_C p s m args meth c c_Model_same 6 "SkeletonTreeModel" D (tyl cI cJ cZ)) (hR1 : 0 ≤ R.frames) (hR2 : 0 ≤ R.locals) (hBA : ∀ q : Nat, B q → A q) {post : (Nat → Int32) → Prop} (hend : ∀ (ti pc : Nat)  (y0 : Nat → Int32) (lv : List (Nat × Value)), t_Model_same[ti]? = some (pc, .return_, 1) → post  y0 → AW p l e R s m args below meth c D A B 6 Q 0 0 (w_Model_same cI cJ cZ a_t a_ends a_there a_one a_two a_what a_piece a_kinds a_group a_many a_pieceOf a_numberOf a_ups a_jointUp a_partner a_beyonds a_gone thrown made tree items pieces joints y0 nodes) lv pc []) (h : wp_Model_same group x1 x2 post) : AW p l e R s m args below meth c D A B 6 Q 0 0 (w_Model_same cI cJ cZ a_t a_ends a_there a_one a_two a_what a_piece a_kinds a_group a_many a_pieceOf a_numberOf a_ups a_jointUp a_partner a_beyonds a_gone thrown made tree items pieces joints group nodes) [(0, .ref a_t), (1, .int x1), (2, .int x2)] 0 [] := by
  unfold wp_Model_same at h
  refine A_aload_n K d_Model_same 0 0 (pc' := 1) rfl rfl rfl rfl ?_
  refine A_get K d_Model_same 1 0 fl_Model_32 (pc' := 4) rfl rfl rfl rfl ?_
  refine A_iload_n K d_Model_same 2 1 (pc' := 5) rfl rfl rfl rfl ?_
  refine A_iald K d_Model_same 3 1 0 (pc' := 6) rfl rfl rfl rfl h.1 ?_
  replace h := h.2
  refine A_istore_n K d_Model_same 4 (pc' := 7) (lv' := [(3, .int (group (ix x1))), (0, .ref a_t), (1, .int x1), (2, .int x2)]) rfl rfl rfl (by decide) rfl ?_
  refine A_aload_n K d_Model_same 5 1 (pc' := 8) rfl rfl rfl rfl ?_
  refine A_get K d_Model_same 6 0 fl_Model_32 (pc' := 11) rfl rfl rfl rfl ?_
  refine A_iload_n K d_Model_same 7 3 (pc' := 12) rfl rfl rfl rfl ?_
  refine A_iald K d_Model_same 8 1 0 (pc' := 13) rfl rfl rfl rfl h.1 ?_
  replace h := h.2
  refine A_istore K d_Model_same 9 (pc' := 15) (lv' := [(4, .int (group (ix x2))), (3, .int (group (ix x1))), (0, .ref a_t), (1, .int x1), (2, .int x2)]) rfl rfl (by decide) rfl ?_
  refine A_iconst K d_Model_same 10 (pc' := 16) (v := 0) rfl rfl (by decide) ?_
  refine A_istore K d_Model_same 11 (pc' := 18) (lv' := [(5, .int 0), (4, .int (group (ix x2))), (3, .int (group (ix x1))), (0, .ref a_t), (1, .int x1), (2, .int x2)]) rfl rfl (by decide) rfl ?_
  refine A_lv [3, 2, 1, 0] rfl ?_
  obtain ⟨n_5, h⟩ := h
  refine sL2_ind (fun (i5_1 : Int32) (group_2 : Nat → Int32) => AW p l e R s m args below meth c D A B 6 Q 0 0 (w_Model_same cI cJ cZ a_t a_ends a_there a_one a_two a_what a_piece a_kinds a_group a_many a_pieceOf a_numberOf a_ups a_jointUp a_partner a_beyonds a_gone thrown made tree items pieces joints group_2 nodes) [(0, .ref a_t), (3, .int (group (ix x1))), (4, .int (group (ix x2))), (5, .int i5_1)] 18 []) ?_ n_5 _ _ h
  intro K_3 ih_4 i5_1 group_2 h
  refine A_iload K d_Model_same 12 3 (pc' := 20) rfl rfl rfl ?_
  refine A_bipush K d_Model_same 13 (pc' := 22) (v := 40) rfl rfl (by decide) ?_
  refine A_icmp_ge K d_Model_same 14 61 (pc' := 25) rfl rfl rfl (fun q => ?_) (fun q => ?_)
  · replace h := h.1 q
    exact hend 33 _ _ _ rfl h
  · replace h := h.2 q
    refine A_aload_n K d_Model_same 15 0 (pc' := 26) rfl rfl rfl rfl ?_
    refine A_get K d_Model_same 16 0 fl_Model_32 (pc' := 29) rfl rfl rfl rfl ?_
    refine A_iload K d_Model_same 17 3 (pc' := 31) rfl rfl rfl ?_
    refine A_aload_n K d_Model_same 18 0 (pc' := 32) rfl rfl rfl rfl ?_
    refine A_get K d_Model_same 19 0 fl_Model_32 (pc' := 35) rfl rfl rfl rfl ?_
    refine A_iload K d_Model_same 20 3 (pc' := 37) rfl rfl rfl ?_
    refine A_iald K d_Model_same 21 1 0 (pc' := 38) rfl rfl rfl rfl h.1 ?_
    replace h := h.2
    refine A_iload_n K d_Model_same 22 1 (pc' := 39) rfl rfl rfl rfl ?_
    refine A_icmp_ne K d_Model_same 23 47 (pc' := 42) rfl rfl rfl (fun q => ?_) (fun q => ?_)
    · replace h := h.1 q
      refine A_aload_n K d_Model_same 26 0 (pc' := 48) rfl rfl rfl rfl ?_
      refine A_get K d_Model_same 27 0 fl_Model_32 (pc' := 51) rfl rfl rfl rfl ?_
      refine A_iload K d_Model_same 28 3 (pc' := 53) rfl rfl rfl ?_
      refine A_iald K d_Model_same 29 1 0 (pc' := 54) rfl rfl rfl rfl h.1 ?_
      replace h := h.2
      refine A_iastN K hBA d_Model_same 30 1 0 (pc' := 55) (ws' := fun group_6 => w_Model_same cI cJ cZ a_t a_ends a_there a_one a_two a_what a_piece a_kinds a_group a_many a_pieceOf a_numberOf a_ups a_jointUp a_partner a_beyonds a_gone thrown made tree items pieces joints group_6 nodes) rfl rfl rfl rfl h.1 (fun _ => rfl) (fun group_6 e_7 => ?_)
      replace h := h.2 group_6 e_7
      refine A_iinc K d_Model_same 31 3 (pc' := 58) (v := i5_1 + 1) (lv' := [(5, .int (i5_1 + 1)), (0, .ref a_t), (3, .int (group (ix x1))), (4, .int (group (ix x2)))]) rfl rfl rfl rfl (by decide) rfl ?_
      refine A_goto K d_Model_same 32 (pc' := 18) rfl rfl ?_
      refine A_lv [1, 2, 3, 0] rfl ?_
      exact ih_4 _ _ h
    · replace h := h.2 q
      refine A_iload K d_Model_same 24 2 (pc' := 44) rfl rfl rfl ?_
      refine A_goto K d_Model_same 25 (pc' := 54) rfl rfl ?_
      refine A_iastN K hBA d_Model_same 30 1 0 (pc' := 55) (ws' := fun group_8 => w_Model_same cI cJ cZ a_t a_ends a_there a_one a_two a_what a_piece a_kinds a_group a_many a_pieceOf a_numberOf a_ups a_jointUp a_partner a_beyonds a_gone thrown made tree items pieces joints group_8 nodes) rfl rfl rfl rfl h.1 (fun _ => rfl) (fun group_8 e_9 => ?_)
      replace h := h.2 group_8 e_9
      refine A_iinc K d_Model_same 31 3 (pc' := 58) (v := i5_1 + 1) (lv' := [(5, .int (i5_1 + 1)), (0, .ref a_t), (3, .int (group (ix x1))), (4, .int (group (ix x2)))]) rfl rfl rfl rfl (by decide) rfl ?_
      refine A_goto K d_Model_same 32 (pc' := 18) rfl rfl ?_
      refine A_lv [1, 2, 3, 0] rfl ?_
      exact ih_4 _ _ h
theorem met_Model_same (l : Launch) (D : va_G) (cI cJ cZ : ClassId) (a_t a_ends a_there a_one a_two a_what a_piece a_kinds a_group a_many a_pieceOf a_numberOf a_ups a_jointUp a_partner a_beyonds a_gone : Nat) (thrown : Int32) (made : Int32) (tree : Int32) (items : Int32) (pieces : Int32) (joints : Int32) (group : Nat → Int32) (nodes : Int32) (x1 : Int32) (x2 : Int32) (post : (Nat → Int32) → Prop) (sz : Nat) : Met l y_Model_same (Cond.code y_Model_same c_Model_same 6 (Option.none : Option Jvm.ClassFile.FieldType) :: GW) { frames := 0, cells := 0, slots := 0, locals := 0 } (va_Pc [.ref a_t, .int x1, .int x2] (fun U => sk_P D (tyl cI cJ cZ) (w_Model_same cI cJ cZ a_t a_ends a_there a_one a_two a_what a_piece a_kinds a_group a_many a_pieceOf a_numberOf a_ups a_jointUp a_partner a_beyonds a_gone thrown made tree items pieces joints group nodes) sz U ∧ wp_Model_same group x1 x2 post)) (va_Qv (fun (u : (Nat → Int32)) => post  u) (fun u t => sk_B D (tyl cI cJ cZ) (w_Model_same cI cJ cZ a_t a_ends a_there a_one a_two a_what a_piece a_kinds a_group a_many a_pieceOf a_numberOf a_ups a_jointUp a_partner a_beyonds a_gone thrown made tree items pieces joints u nodes) (va_A (w_Model_same cI cJ cZ a_t a_ends a_there a_one a_two a_what a_piece a_kinds a_group a_many a_pieceOf a_numberOf a_ups a_jointUp a_partner a_beyonds a_gone thrown made tree items pieces joints group nodes) sz) t) (va_A (w_Model_same cI cJ cZ a_t a_ends a_there a_one a_two a_what a_piece a_kinds a_group a_many a_pieceOf a_numberOf a_ups a_jointUp a_partner a_beyonds a_gone thrown made tree items pieces joints group nodes) sz)) 0 0 (va_A (w_Model_same cI cJ cZ a_t a_ends a_there a_one a_two a_what a_piece a_kinds a_group a_many a_pieceOf a_numberOf a_ups a_jointUp a_partner a_beyonds a_gone thrown made tree items pieces joints group nodes) sz) :=
  sk_intro (by decide) (Nat.le_of_ble_eq_true rfl) (fun p e s m below meth c K hr _ h => bd_Model_same K (Nat.le_refl _) (Nat.le_refl _) (fun _ z => z) (fun ti pc y0 lv hd hp => A_vret K d_Model_same ti hr (post := (fun (u : (Nat → Int32)) => post  u)) (wl := fun (u : (Nat → Int32)) => w_Model_same cI cJ cZ a_t a_ends a_there a_one a_two a_what a_piece a_kinds a_group a_many a_pieceOf a_numberOf a_ups a_jointUp a_partner a_beyonds a_gone thrown made tree items pieces joints u nodes) y0 hd hp) h)
/-! SkeletonTreeModel.join(II)V -/
def t_Model_join : List (Nat × Instr × Nat) := [(0, .iconst 0, 1), (1, .istore_n 3, 1), (2, .iload_n 3, 1), (3, .bipush 40, 2), (5, .if_icmp .ge 16, 3), (8, .aload_n 0, 1), (9, .getfield 32, 3), (12, .iload_n 3, 1), (13, .iload_n 3, 1), (14, .iastore, 1), (15, .iinc 3 1, 3), (18, .goto (-16), 3), (21, .iconst 0, 1), (22, .istore_n 3, 1), (23, .iload_n 3, 1), (24, .aload_n 0, 1), (25, .getfield 59, 3), (28, .if_icmp .ge 72, 3), (31, .aload_n 0, 1), (32, .getfield 7, 3), (35, .iconst 2, 1), (36, .iload_n 3, 1), (37, .imul, 1), (38, .iaload, 1), (39, .istore 4, 2), (41, .aload_n 0, 1), (42, .getfield 7, 3), (45, .iconst 2, 1), (46, .iload_n 3, 1), (47, .imul, 1), (48, .iconst 1, 1), (49, .iadd, 1), (50, .iaload, 1), (51, .istore 5, 2), (53, .aload_n 0, 1), (54, .getfield 13, 3), (57, .iload_n 3, 1), (58, .baload, 1), (59, .ifCond .eq 35, 3), (62, .iload 4, 2), (64, .iload_n 1, 1), (65, .if_icmp .eq 29, 3), (68, .iload 4, 2), (70, .iload_n 2, 1), (71, .if_icmp .eq 23, 3), (74, .iload 5, 2), (76, .iload_n 1, 1), (77, .if_icmp .eq 17, 3), (80, .iload 5, 2), (82, .iload_n 2, 1), (83, .if_icmp .eq 11, 3), (86, .aload_n 0, 1), (87, .iload 4, 2), (89, .iload 5, 2), (91, .invokevirtual 81, 3), (94, .iinc 3 1, 3), (97, .goto (-74), 3), (100, .return_, 1)]
set_option maxRecDepth 100000 in
theorem d_Model_join : sk_T c_Model_join t_Model_join := by unfold sk_T t_Model_join; decide +kernel
def w_Model_join (cI cJ cZ : ClassId) (a_t a_ends a_there a_one a_two a_what a_piece a_kinds a_group a_many a_pieceOf a_numberOf a_ups a_jointUp a_partner a_beyonds a_gone : Nat) (thrown : Int32) (made : Int32) (ends : Nat → Int32) (there : Nat → Int32) (tree : Int32) (items : Int32) (pieces : Int32) (joints : Int32) (group : Nat → Int32) (nodes : Int32) : va_W := [(a_t, .inr (5, [.int thrown, .int made, .ref a_ends, .ref a_there, .int tree, .int items, .ref a_one, .ref a_two, .ref a_what, .ref a_piece, .int pieces, .int joints, .ref a_kinds, .ref a_group, .ref a_many, .int nodes, .ref a_pieceOf, .ref a_numberOf, .ref a_ups, .ref a_jointUp, .ref a_partner, .ref a_beyonds, .ref a_gone])), (a_ends, .inl (cI, 200, .inl ends)), (a_there, .inl (cZ, 100, .inl there)), (a_group, .inl (cI, 40, .inl group))]
def wp_Model_join  (made : Int32) (ends : Nat → Int32) (there : Nat → Int32) (group : Nat → Int32) (x1 : Int32) (x2 : Int32) (post : (Nat → Int32) → Prop) : Prop :=
  ∃ n, sL2 (fun (K_3 : Int32 → (Nat → Int32) → Prop) (i3_1 : Int32) (group_2 : Nat → Int32) => (40 ≤ i3_1 → ∃ n, sL2 (fun (K_8 : Int32 → (Nat → Int32) → Prop) (i3_6 : Int32) (group_7 : Nat → Int32) => (made ≤ i3_6 → post group_7) ∧ (¬ made ≤ i3_6 → vp_in (2 * i3_6) 200 ∧ vp_in ((2 * i3_6) + 1) 200 ∧ vp_in i3_6 100 ∧ ((there (ix i3_6)) = 0 → K_8 (i3_6 + 1) group_7) ∧ (¬ (there (ix i3_6)) = 0 → ((ends (ix (2 * i3_6))) = x1 → K_8 (i3_6 + 1) group_7) ∧ (¬ (ends (ix (2 * i3_6))) = x1 → ((ends (ix (2 * i3_6))) = x2 → K_8 (i3_6 + 1) group_7) ∧ (¬ (ends (ix (2 * i3_6))) = x2 → ((ends (ix ((2 * i3_6) + 1))) = x1 → K_8 (i3_6 + 1) group_7) ∧ (¬ (ends (ix ((2 * i3_6) + 1))) = x1 → ((ends (ix ((2 * i3_6) + 1))) = x2 → K_8 (i3_6 + 1) group_7) ∧ (¬ (ends (ix ((2 * i3_6) + 1))) = x2 → wp_Model_same group_7 (ends (ix (2 * i3_6))) (ends (ix ((2 * i3_6) + 1))) (fun group_11 => K_8 (i3_6 + 1) group_11)))))))) n 0 group_2) ∧ (¬ 40 ≤ i3_1 → vp_in i3_1 40 ∧ ∀ group_12 : Nat → Int32, group_12 = upd group_2 (ix i3_1) i3_1 → K_3 (i3_1 + 1) group_12)) n 0 group
set_option maxHeartbeats 4000000 in
set_option maxRecDepth 100000 in
theorem bd_Model_join {p : Program} {l : Launch} {e : Env} {R : Room} {s : State} {m : MethodId} {args : Array Value} {below : List Frame} {meth : Method} {c : Code} {D : va_G} {A B : Nat → Prop} {Q : State → Prop} {cI cJ cZ : ClassId} {a_t a_ends a_there a_one a_two a_what a_piece a_kinds a_group a_many a_pieceOf a_numberOf a_ups a_jointUp a_partner a_beyonds a_gone : Nat} {thrown : Int32} {made : Int32} {ends : Nat → Int32} {there : Nat → Int32} {tree : Int32} {items : Int32} {pieces : Int32} {joints : Int32} {group : Nat → Int32} {nodes : Int32} {x1 : Int32} {x2 : Int32} (K : sk_C p s m args meth c c_Model_join 6 "SkeletonTreeModel" D (tyl cI cJ cZ)) (hR1 : 1 ≤ R.frames) (hR2 : 25 ≤ R.locals) (hBA : ∀ q : Nat, B q → A q) {post : (Nat → Int32) → Prop} (hend : ∀ (ti pc : Nat)  (y0 : Nat → Int32) (lv : List (Nat × Value)), t_Model_join[ti]? = some (pc, .return_, 1) → post  y0 → AW p l e R s m args below meth c D A B 6 Q 0 0 (w_Model_join cI cJ cZ a_t a_ends a_there a_one a_two a_what a_piece a_kinds a_group a_many a_pieceOf a_numberOf a_ups a_jointUp a_partner a_beyonds a_gone thrown made ends there tree items pieces joints y0 nodes) lv pc []) (h : wp_Model_join made ends there group x1 x2 post) : AW p l e R s m args below meth c D A B 6 Q 0 0 (w_Model_join cI cJ cZ a_t a_ends a_there a_one a_two a_what a_piece a_kinds a_group a_many a_pieceOf a_numberOf a_ups a_jointUp a_partner a_beyonds a_gone thrown made ends there tree items pieces joints group nodes) [(0, .ref a_t), (1, .int x1), (2, .int x2)] 0 [] := by
  unfold wp_Model_join at h
  refine A_iconst K d_Model_join 0 (pc' := 1) (v := 0) rfl rfl (by decide) ?_
  refine A_istore_n K d_Model_join 1 (pc' := 2) (lv' := [(3, .int 0), (0, .ref a_t), (1, .int x1), (2, .int x2)]) rfl rfl rfl (by decide) rfl ?_
  refine A_lv [1, 2, 3, 0] rfl ?_
  obtain ⟨n_5, h⟩ := h
  refine sL2_ind (fun (i3_1 : Int32) (group_2 : Nat → Int32) => AW p l e R s m args below meth c D A B 6 Q 0 0 (w_Model_join cI cJ cZ a_t a_ends a_there a_one a_two a_what a_piece a_kinds a_group a_many a_pieceOf a_numberOf a_ups a_jointUp a_partner a_beyonds a_gone thrown made ends there tree items pieces joints group_2 nodes) [(0, .ref a_t), (1, .int x1), (2, .int x2), (3, .int i3_1)] 2 []) ?_ n_5 _ _ h
  intro K_3 ih_4 i3_1 group_2 h
  refine A_iload_n K d_Model_join 2 3 (pc' := 3) rfl rfl rfl rfl ?_
  refine A_bipush K d_Model_join 3 (pc' := 5) (v := 40) rfl rfl (by decide) ?_
  refine A_icmp_ge K d_Model_join 4 21 (pc' := 8) rfl rfl rfl (fun q => ?_) (fun q => ?_)
  · replace h := h.1 q
    refine A_iconst K d_Model_join 12 (pc' := 22) (v := 0) rfl rfl (by decide) ?_
    refine A_istore_n K d_Model_join 13 (pc' := 23) (lv' := [(3, .int 0), (0, .ref a_t), (1, .int x1), (2, .int x2)]) rfl rfl rfl (by decide) rfl ?_
    refine A_lv [1, 2, 3, 0] rfl ?_
    obtain ⟨n_10, h⟩ := h
    refine sL2_ind (fun (i3_6 : Int32) (group_7 : Nat → Int32) => AW p l e R s m args below meth c D A B 6 Q 0 0 (w_Model_join cI cJ cZ a_t a_ends a_there a_one a_two a_what a_piece a_kinds a_group a_many a_pieceOf a_numberOf a_ups a_jointUp a_partner a_beyonds a_gone thrown made ends there tree items pieces joints group_7 nodes) [(0, .ref a_t), (1, .int x1), (2, .int x2), (3, .int i3_6)] 23 []) ?_ n_10 _ _ h
    intro K_8 ih_9 i3_6 group_7 h
    refine A_iload_n K d_Model_join 14 3 (pc' := 24) rfl rfl rfl rfl ?_
    refine A_aload_n K d_Model_join 15 0 (pc' := 25) rfl rfl rfl rfl ?_
    refine A_get K d_Model_join 16 0 fl_Model_59 (pc' := 28) rfl rfl rfl rfl ?_
    refine A_icmp_ge K d_Model_join 17 100 (pc' := 31) rfl rfl rfl (fun q => ?_) (fun q => ?_)
    · replace h := h.1 q
      exact hend 57 _ _ _ rfl h
    · replace h := h.2 q
      refine A_aload_n K d_Model_join 18 0 (pc' := 32) rfl rfl rfl rfl ?_
      refine A_get K d_Model_join 19 0 fl_Model_7 (pc' := 35) rfl rfl rfl rfl ?_
      refine A_iconst K d_Model_join 20 (pc' := 36) (v := 2) rfl rfl (by decide) ?_
      refine A_iload_n K d_Model_join 21 3 (pc' := 37) rfl rfl rfl rfl ?_
      refine A_imul K d_Model_join 22 (pc' := 38) rfl rfl ?_
      refine A_iald K d_Model_join 23 1 0 (pc' := 39) rfl rfl rfl rfl h.1 ?_
      replace h := h.2
      refine A_istore K d_Model_join 24 (pc' := 41) (lv' := [(4, .int (ends (ix (2 * i3_6)))), (0, .ref a_t), (1, .int x1), (2, .int x2), (3, .int i3_6)]) rfl rfl (by decide) rfl ?_
      refine A_aload_n K d_Model_join 25 1 (pc' := 42) rfl rfl rfl rfl ?_
      refine A_get K d_Model_join 26 0 fl_Model_7 (pc' := 45) rfl rfl rfl rfl ?_
      refine A_iconst K d_Model_join 27 (pc' := 46) (v := 2) rfl rfl (by decide) ?_
      refine A_iload_n K d_Model_join 28 4 (pc' := 47) rfl rfl rfl rfl ?_
      refine A_imul K d_Model_join 29 (pc' := 48) rfl rfl ?_
      refine A_iconst K d_Model_join 30 (pc' := 49) (v := 1) rfl rfl (by decide) ?_
      refine A_iadd K d_Model_join 31 (pc' := 50) rfl rfl ?_
      refine A_iald K d_Model_join 32 1 0 (pc' := 51) rfl rfl rfl rfl h.1 ?_
      replace h := h.2
      refine A_istore K d_Model_join 33 (pc' := 53) (lv' := [(5, .int (ends (ix ((2 * i3_6) + 1)))), (4, .int (ends (ix (2 * i3_6)))), (0, .ref a_t), (1, .int x1), (2, .int x2), (3, .int i3_6)]) rfl rfl (by decide) rfl ?_
      refine A_aload_n K d_Model_join 34 2 (pc' := 54) rfl rfl rfl rfl ?_
      refine A_get K d_Model_join 35 0 fl_Model_13 (pc' := 57) rfl rfl rfl rfl ?_
      refine A_iload_n K d_Model_join 36 5 (pc' := 58) rfl rfl rfl rfl ?_
      refine A_zald K d_Model_join 37 2 2 (pc' := 59) rfl rfl rfl rfl h.1 ?_
      replace h := h.2
      refine A_if_eq K d_Model_join 38 94 (pc' := 62) rfl rfl rfl (fun q => ?_) (fun q => ?_)
      · replace h := h.1 q
        refine A_iinc K d_Model_join 55 5 (pc' := 97) (v := i3_6 + 1) (lv' := [(3, .int (i3_6 + 1)), (5, .int (ends (ix ((2 * i3_6) + 1)))), (4, .int (ends (ix (2 * i3_6)))), (0, .ref a_t), (1, .int x1), (2, .int x2)]) rfl rfl rfl rfl (by decide) rfl ?_
        refine A_goto K d_Model_join 56 (pc' := 23) rfl rfl ?_
        refine A_lv [3, 4, 5, 0] rfl ?_
        exact ih_9 _ _ h
      · replace h := h.2 q
        refine A_iload K d_Model_join 39 1 (pc' := 64) rfl rfl rfl ?_
        refine A_iload_n K d_Model_join 40 3 (pc' := 65) rfl rfl rfl rfl ?_
        refine A_icmp_eq K d_Model_join 41 94 (pc' := 68) rfl rfl rfl (fun q => ?_) (fun q => ?_)
        · replace h := h.1 q
          refine A_iinc K d_Model_join 55 5 (pc' := 97) (v := i3_6 + 1) (lv' := [(3, .int (i3_6 + 1)), (5, .int (ends (ix ((2 * i3_6) + 1)))), (4, .int (ends (ix (2 * i3_6)))), (0, .ref a_t), (1, .int x1), (2, .int x2)]) rfl rfl rfl rfl (by decide) rfl ?_
          refine A_goto K d_Model_join 56 (pc' := 23) rfl rfl ?_
          refine A_lv [3, 4, 5, 0] rfl ?_
          exact ih_9 _ _ h
        · replace h := h.2 q
          refine A_iload K d_Model_join 42 1 (pc' := 70) rfl rfl rfl ?_
          refine A_iload_n K d_Model_join 43 4 (pc' := 71) rfl rfl rfl rfl ?_
          refine A_icmp_eq K d_Model_join 44 94 (pc' := 74) rfl rfl rfl (fun q => ?_) (fun q => ?_)
          · replace h := h.1 q
            refine A_iinc K d_Model_join 55 5 (pc' := 97) (v := i3_6 + 1) (lv' := [(3, .int (i3_6 + 1)), (5, .int (ends (ix ((2 * i3_6) + 1)))), (4, .int (ends (ix (2 * i3_6)))), (0, .ref a_t), (1, .int x1), (2, .int x2)]) rfl rfl rfl rfl (by decide) rfl ?_
            refine A_goto K d_Model_join 56 (pc' := 23) rfl rfl ?_
            refine A_lv [3, 4, 5, 0] rfl ?_
            exact ih_9 _ _ h
          · replace h := h.2 q
            refine A_iload K d_Model_join 45 0 (pc' := 76) rfl rfl rfl ?_
            refine A_iload_n K d_Model_join 46 3 (pc' := 77) rfl rfl rfl rfl ?_
            refine A_icmp_eq K d_Model_join 47 94 (pc' := 80) rfl rfl rfl (fun q => ?_) (fun q => ?_)
            · replace h := h.1 q
              refine A_iinc K d_Model_join 55 5 (pc' := 97) (v := i3_6 + 1) (lv' := [(3, .int (i3_6 + 1)), (5, .int (ends (ix ((2 * i3_6) + 1)))), (4, .int (ends (ix (2 * i3_6)))), (0, .ref a_t), (1, .int x1), (2, .int x2)]) rfl rfl rfl rfl (by decide) rfl ?_
              refine A_goto K d_Model_join 56 (pc' := 23) rfl rfl ?_
              refine A_lv [3, 4, 5, 0] rfl ?_
              exact ih_9 _ _ h
            · replace h := h.2 q
              refine A_iload K d_Model_join 48 0 (pc' := 82) rfl rfl rfl ?_
              refine A_iload_n K d_Model_join 49 4 (pc' := 83) rfl rfl rfl rfl ?_
              refine A_icmp_eq K d_Model_join 50 94 (pc' := 86) rfl rfl rfl (fun q => ?_) (fun q => ?_)
              · replace h := h.1 q
                refine A_iinc K d_Model_join 55 5 (pc' := 97) (v := i3_6 + 1) (lv' := [(3, .int (i3_6 + 1)), (5, .int (ends (ix ((2 * i3_6) + 1)))), (4, .int (ends (ix (2 * i3_6)))), (0, .ref a_t), (1, .int x1), (2, .int x2)]) rfl rfl rfl rfl (by decide) rfl ?_
                refine A_goto K d_Model_join 56 (pc' := 23) rfl rfl ?_
                refine A_lv [3, 4, 5, 0] rfl ?_
                exact ih_9 _ _ h
              · replace h := h.2 q
                refine A_aload_n K d_Model_join 51 2 (pc' := 87) rfl rfl rfl rfl ?_
                refine A_iload K d_Model_join 52 1 (pc' := 89) rfl rfl rfl ?_
                refine A_iload K d_Model_join 53 0 (pc' := 91) rfl rfl rfl ?_
                refine C_Vv1 K hBA d_Model_join 54 [0, 3] [some 0, none, none, some 1] (As := [.int (ends (ix (2 * i3_6))), .int (ends (ix ((2 * i3_6) + 1)))]) (rest := []) (pc' := 94) (wl := fun group_11 => w_Model_same cI cJ cZ a_t a_ends a_there a_one a_two a_what a_piece a_kinds a_group a_many a_pieceOf a_numberOf a_ups a_jointUp a_partner a_beyonds a_gone thrown made tree items pieces joints group_11 nodes) (ws' := fun group_11 => w_Model_join cI cJ cZ a_t a_ends a_there a_one a_two a_what a_piece a_kinds a_group a_many a_pieceOf a_numberOf a_ups a_jointUp a_partner a_beyonds a_gone thrown made ends there tree items pieces joints group_11 nodes) v_Model_81 ⟨rfl, rfl, Nat.le_trans (Nat.le_of_ble_eq_true rfl) hR1, Nat.le_trans (Nat.le_of_ble_eq_true rfl) hR2⟩ (fun sz => met_Model_same l D cI cJ cZ a_t a_ends a_there a_one a_two a_what a_piece a_kinds a_group a_many a_pieceOf a_numberOf a_ups a_jointUp a_partner a_beyonds a_gone thrown made tree items pieces joints group_7 nodes (ends (ix (2 * i3_6))) (ends (ix ((2 * i3_6) + 1))) _ sz) h rfl rfl rfl rfl rfl (fun _ => rfl) rfl (by decide) (Nat.le_of_ble_eq_true rfl) ⟨Nat.zero_le _, Nat.zero_le _⟩ (q0 := 0) rfl rfl (fun _ => rfl) (fun group_11 h => ?_)
                refine A_iinc K d_Model_join 55 5 (pc' := 97) (v := i3_6 + 1) (lv' := [(3, .int (i3_6 + 1)), (5, .int (ends (ix ((2 * i3_6) + 1)))), (4, .int (ends (ix (2 * i3_6)))), (0, .ref a_t), (1, .int x1), (2, .int x2)]) rfl rfl rfl rfl (by decide) rfl ?_
                refine A_goto K d_Model_join 56 (pc' := 23) rfl rfl ?_
                refine A_lv [3, 4, 5, 0] rfl ?_
                exact ih_9 _ _ h
  · replace h := h.2 q
    refine A_aload_n K d_Model_join 5 0 (pc' := 9) rfl rfl rfl rfl ?_
    refine A_get K d_Model_join 6 0 fl_Model_32 (pc' := 12) rfl rfl rfl rfl ?_
    refine A_iload_n K d_Model_join 7 3 (pc' := 13) rfl rfl rfl rfl ?_
    refine A_iload_n K d_Model_join 8 3 (pc' := 14) rfl rfl rfl rfl ?_
    refine A_iastN K hBA d_Model_join 9 3 0 (pc' := 15) (ws' := fun group_12 => w_Model_join cI cJ cZ a_t a_ends a_there a_one a_two a_what a_piece a_kinds a_group a_many a_pieceOf a_numberOf a_ups a_jointUp a_partner a_beyonds a_gone thrown made ends there tree items pieces joints group_12 nodes) rfl rfl rfl rfl h.1 (fun _ => rfl) (fun group_12 e_13 => ?_)
    replace h := h.2 group_12 e_13
    refine A_iinc K d_Model_join 10 3 (pc' := 18) (v := i3_1 + 1) (lv' := [(3, .int (i3_1 + 1)), (0, .ref a_t), (1, .int x1), (2, .int x2)]) rfl rfl rfl rfl (by decide) rfl ?_
    refine A_goto K d_Model_join 11 (pc' := 2) rfl rfl ?_
    refine A_lv [1, 2, 3, 0] rfl ?_
    exact ih_4 _ _ h
theorem met_Model_join (l : Launch) (D : va_G) (cI cJ cZ : ClassId) (a_t a_ends a_there a_one a_two a_what a_piece a_kinds a_group a_many a_pieceOf a_numberOf a_ups a_jointUp a_partner a_beyonds a_gone : Nat) (thrown : Int32) (made : Int32) (ends : Nat → Int32) (there : Nat → Int32) (tree : Int32) (items : Int32) (pieces : Int32) (joints : Int32) (group : Nat → Int32) (nodes : Int32) (x1 : Int32) (x2 : Int32) (post : (Nat → Int32) → Prop) (sz : Nat) : Met l y_Model_join (Cond.code y_Model_join c_Model_join 6 (Option.none : Option Jvm.ClassFile.FieldType) :: GW) { frames := 1, cells := 0, slots := 0, locals := 25 } (va_Pc [.ref a_t, .int x1, .int x2] (fun U => sk_P D (tyl cI cJ cZ) (w_Model_join cI cJ cZ a_t a_ends a_there a_one a_two a_what a_piece a_kinds a_group a_many a_pieceOf a_numberOf a_ups a_jointUp a_partner a_beyonds a_gone thrown made ends there tree items pieces joints group nodes) sz U ∧ wp_Model_join made ends there group x1 x2 post)) (va_Qv (fun (u : (Nat → Int32)) => post  u) (fun u t => sk_B D (tyl cI cJ cZ) (w_Model_join cI cJ cZ a_t a_ends a_there a_one a_two a_what a_piece a_kinds a_group a_many a_pieceOf a_numberOf a_ups a_jointUp a_partner a_beyonds a_gone thrown made ends there tree items pieces joints u nodes) (va_A (w_Model_join cI cJ cZ a_t a_ends a_there a_one a_two a_what a_piece a_kinds a_group a_many a_pieceOf a_numberOf a_ups a_jointUp a_partner a_beyonds a_gone thrown made ends there tree items pieces joints group nodes) sz) t) (va_A (w_Model_join cI cJ cZ a_t a_ends a_there a_one a_two a_what a_piece a_kinds a_group a_many a_pieceOf a_numberOf a_ups a_jointUp a_partner a_beyonds a_gone thrown made ends there tree items pieces joints group nodes) sz)) 0 0 (va_A (w_Model_join cI cJ cZ a_t a_ends a_there a_one a_two a_what a_piece a_kinds a_group a_many a_pieceOf a_numberOf a_ups a_jointUp a_partner a_beyonds a_gone thrown made ends there tree items pieces joints group nodes) sz) :=
  sk_intro (by decide) (Nat.le_of_ble_eq_true rfl) (fun p e s m below meth c K hr _ h => bd_Model_join K (Nat.le_refl _) (Nat.le_refl _) (fun _ z => z) (fun ti pc y0 lv hd hp => A_vret K d_Model_join ti hr (post := (fun (u : (Nat → Int32)) => post  u)) (wl := fun (u : (Nat → Int32)) => w_Model_join cI cJ cZ a_t a_ends a_there a_one a_two a_what a_piece a_kinds a_group a_many a_pieceOf a_numberOf a_ups a_jointUp a_partner a_beyonds a_gone thrown made ends there tree items pieces joints u nodes) y0 hd hp) h)
/-! SkeletonTreeModel.isOne(I)Z -/
def t_Model_isOne : List (Nat × Instr × Nat) := [(0, .aload_n 0, 1), (1, .iload_n 1, 1), (2, .iload_n 1, 1), (3, .invokevirtual 85, 3), (6, .iconst (-1), 1), (7, .istore_n 2, 1), (8, .iconst 0, 1), (9, .istore_n 3, 1), (10, .iload_n 3, 1), (11, .bipush 40, 2), (13, .if_icmp .ge 45, 3), (16, .iload_n 3, 1), (17, .iload_n 1, 1), (18, .if_icmp .eq 34, 3), (21, .aload_n 0, 1), (22, .iload_n 3, 1), (23, .invokevirtual 88, 3), (26, .ifCond .eq 26, 3), (29, .iload_n 2, 1), (30, .ifCond .lt 20, 3), (33, .aload_n 0, 1), (34, .getfield 32, 3), (37, .iload_n 3, 1), (38, .iaload, 1), (39, .aload_n 0, 1), (40, .getfield 32, 3), (43, .iload_n 2, 1), (44, .iaload, 1), (45, .if_icmp .eq 5, 3), (48, .iconst 0, 1), (49, .ireturn, 1), (50, .iload_n 3, 1), (51, .istore_n 2, 1), (52, .iinc 3 1, 3), (55, .goto (-45), 3), (58, .iconst 1, 1), (59, .ireturn, 1)]
set_option maxRecDepth 100000 in
theorem d_Model_isOne : sk_T c_Model_isOne t_Model_isOne := by unfold sk_T t_Model_isOne; decide +kernel
def w_Model_isOne (cI cJ cZ : ClassId) (a_t a_ends a_there a_one a_two a_what a_piece a_kinds a_group a_many a_pieceOf a_numberOf a_ups a_jointUp a_partner a_beyonds a_gone : Nat) (thrown : Int32) (made : Int32) (ends : Nat → Int32) (there : Nat → Int32) (tree : Int32) (items : Int32) (pieces : Int32) (joints : Int32) (group : Nat → Int32) (nodes : Int32) : va_W := [(a_t, .inr (5, [.int thrown, .int made, .ref a_ends, .ref a_there, .int tree, .int items, .ref a_one, .ref a_two, .ref a_what, .ref a_piece, .int pieces, .int joints, .ref a_kinds, .ref a_group, .ref a_many, .int nodes, .ref a_pieceOf, .ref a_numberOf, .ref a_ups, .ref a_jointUp, .ref a_partner, .ref a_beyonds, .ref a_gone])), (a_ends, .inl (cI, 200, .inl ends)), (a_there, .inl (cZ, 100, .inl there)), (a_group, .inl (cI, 40, .inl group))]
def wp_Model_isOne  (made : Int32) (ends : Nat → Int32) (there : Nat → Int32) (group : Nat → Int32) (x1 : Int32) (post : Int32 → (Nat → Int32) → Prop) : Prop :=
  wp_Model_join made ends there group x1 x1 (fun group_1 => ∃ n, sL2 (fun (K_4 : Int32 → Int32 → Prop) (i2_2 : Int32) (i3_3 : Int32) => (40 ≤ i3_3 → post 1 group_1) ∧ (¬ 40 ≤ i3_3 → (i3_3 = x1 → K_4 i2_2 (i3_3 + 1)) ∧ (¬ i3_3 = x1 → wp_Model_isUsed made ends there i3_3 (fun r_7 => (r_7 = 0 → K_4 i2_2 (i3_3 + 1)) ∧ (¬ r_7 = 0 → (i2_2 < 0 → K_4 i3_3 (i3_3 + 1)) ∧ (¬ i2_2 < 0 → vp_in i3_3 40 ∧ vp_in i2_2 40 ∧ ((group_1 (ix i3_3)) = (group_1 (ix i2_2)) → K_4 i3_3 (i3_3 + 1)) ∧ (¬ (group_1 (ix i3_3)) = (group_1 (ix i2_2)) → post 0 group_1))))))) n (-1) 0)
set_option maxHeartbeats 4000000 in
set_option maxRecDepth 100000 in
theorem bd_Model_isOne {p : Program} {l : Launch} {e : Env} {R : Room} {s : State} {m : MethodId} {args : Array Value} {below : List Frame} {meth : Method} {c : Code} {D : va_G} {A B : Nat → Prop} {Q : State → Prop} {cI cJ cZ : ClassId} {a_t a_ends a_there a_one a_two a_what a_piece a_kinds a_group a_many a_pieceOf a_numberOf a_ups a_jointUp a_partner a_beyonds a_gone : Nat} {thrown : Int32} {made : Int32} {ends : Nat → Int32} {there : Nat → Int32} {tree : Int32} {items : Int32} {pieces : Int32} {joints : Int32} {group : Nat → Int32} {nodes : Int32} {x1 : Int32} (K : sk_C p s m args meth c c_Model_isOne 4 "SkeletonTreeModel" D (tyl cI cJ cZ)) (hR1 : 2 ≤ R.frames) (hR2 : 50 ≤ R.locals) (hBA : ∀ q : Nat, B q → A q) {post : Int32 → (Nat → Int32) → Prop} (hend : ∀ (ti pc : Nat) (r : Int32) (y0 : Nat → Int32) (lv : List (Nat × Value)), t_Model_isOne[ti]? = some (pc, .ireturn, 1) → sk_b r → post r y0 → AW p l e R s m args below meth c D A B 4 Q 0 0 (w_Model_isOne cI cJ cZ a_t a_ends a_there a_one a_two a_what a_piece a_kinds a_group a_many a_pieceOf a_numberOf a_ups a_jointUp a_partner a_beyonds a_gone thrown made ends there tree items pieces joints y0 nodes) lv pc [.int r]) (h : wp_Model_isOne made ends there group x1 post) : AW p l e R s m args below meth c D A B 4 Q 0 0 (w_Model_isOne cI cJ cZ a_t a_ends a_there a_one a_two a_what a_piece a_kinds a_group a_many a_pieceOf a_numberOf a_ups a_jointUp a_partner a_beyonds a_gone thrown made ends there tree items pieces joints group nodes) [(0, .ref a_t), (1, .int x1)] 0 [] := by
  unfold wp_Model_isOne at h
  refine A_aload_n K d_Model_isOne 0 0 (pc' := 1) rfl rfl rfl rfl ?_
  refine A_iload_n K d_Model_isOne 1 1 (pc' := 2) rfl rfl rfl rfl ?_
  refine A_iload_n K d_Model_isOne 2 1 (pc' := 3) rfl rfl rfl rfl ?_
  refine C_Vv1 K hBA d_Model_isOne 3 [0, 1, 2, 3] [some 0, some 1, some 2, some 3] (As := [.int x1, .int x1]) (rest := []) (pc' := 6) (wl := fun group_1 => w_Model_join cI cJ cZ a_t a_ends a_there a_one a_two a_what a_piece a_kinds a_group a_many a_pieceOf a_numberOf a_ups a_jointUp a_partner a_beyonds a_gone thrown made ends there tree items pieces joints group_1 nodes) (ws' := fun group_1 => w_Model_isOne cI cJ cZ a_t a_ends a_there a_one a_two a_what a_piece a_kinds a_group a_many a_pieceOf a_numberOf a_ups a_jointUp a_partner a_beyonds a_gone thrown made ends there tree items pieces joints group_1 nodes) v_Model_85 ⟨rfl, rfl, Nat.le_trans (Nat.le_of_ble_eq_true rfl) hR1, Nat.le_trans (Nat.le_of_ble_eq_true rfl) hR2⟩ (fun sz => met_Model_join l D cI cJ cZ a_t a_ends a_there a_one a_two a_what a_piece a_kinds a_group a_many a_pieceOf a_numberOf a_ups a_jointUp a_partner a_beyonds a_gone thrown made ends there tree items pieces joints group nodes x1 x1 _ sz) h rfl rfl rfl rfl rfl (fun _ => rfl) rfl (by decide) (Nat.le_of_ble_eq_true rfl) ⟨Nat.zero_le _, Nat.zero_le _⟩ (q0 := 0) rfl rfl (fun _ => rfl) (fun group_1 h => ?_)
  refine A_iconst K d_Model_isOne 4 (pc' := 7) (v := (-1)) rfl rfl (by decide) ?_
  refine A_istore_n K d_Model_isOne 5 (pc' := 8) (lv' := [(2, .int (-1)), (0, .ref a_t), (1, .int x1)]) rfl rfl rfl (by decide) rfl ?_
  refine A_iconst K d_Model_isOne 6 (pc' := 9) (v := 0) rfl rfl (by decide) ?_
  refine A_istore_n K d_Model_isOne 7 (pc' := 10) (lv' := [(3, .int 0), (2, .int (-1)), (0, .ref a_t), (1, .int x1)]) rfl rfl rfl (by decide) rfl ?_
  refine A_lv [2, 3, 1, 0] rfl ?_
  obtain ⟨n_6, h⟩ := h
  refine sL2_ind (fun (i2_2 : Int32) (i3_3 : Int32) => AW p l e R s m args below meth c D A B 4 Q 0 0 (w_Model_isOne cI cJ cZ a_t a_ends a_there a_one a_two a_what a_piece a_kinds a_group a_many a_pieceOf a_numberOf a_ups a_jointUp a_partner a_beyonds a_gone thrown made ends there tree items pieces joints group_1 nodes) [(0, .ref a_t), (1, .int x1), (2, .int i2_2), (3, .int i3_3)] 10 []) ?_ n_6 _ _ h
  intro K_4 ih_5 i2_2 i3_3 h
  refine A_iload_n K d_Model_isOne 8 3 (pc' := 11) rfl rfl rfl rfl ?_
  refine A_bipush K d_Model_isOne 9 (pc' := 13) (v := 40) rfl rfl (by decide) ?_
  refine A_icmp_ge K d_Model_isOne 10 58 (pc' := 16) rfl rfl rfl (fun q => ?_) (fun q => ?_)
  · replace h := h.1 q
    refine A_iconst K d_Model_isOne 35 (pc' := 59) (v := 1) rfl rfl (by decide) ?_
    exact hend 36 _ _ _ _ rfl (Or.inr rfl) h
  · replace h := h.2 q
    refine A_iload_n K d_Model_isOne 11 3 (pc' := 17) rfl rfl rfl rfl ?_
    refine A_iload_n K d_Model_isOne 12 1 (pc' := 18) rfl rfl rfl rfl ?_
    refine A_icmp_eq K d_Model_isOne 13 52 (pc' := 21) rfl rfl rfl (fun q => ?_) (fun q => ?_)
    · replace h := h.1 q
      refine A_iinc K d_Model_isOne 33 3 (pc' := 55) (v := i3_3 + 1) (lv' := [(3, .int (i3_3 + 1)), (0, .ref a_t), (1, .int x1), (2, .int i2_2)]) rfl rfl rfl rfl (by decide) rfl ?_
      refine A_goto K d_Model_isOne 34 (pc' := 10) rfl rfl ?_
      refine A_lv [1, 2, 3, 0] rfl ?_
      exact ih_5 _ _ h
    · replace h := h.2 q
      refine A_aload_n K d_Model_isOne 14 0 (pc' := 22) rfl rfl rfl rfl ?_
      refine A_iload_n K d_Model_isOne 15 3 (pc' := 23) rfl rfl rfl rfl ?_
      refine R_callV_i K d_Model_isOne 16 [0, 1, 2] (As := [.int i3_3]) (rest := []) (pc' := 26) v_Model_88 ⟨rfl, rfl, Nat.le_trans (Nat.le_of_ble_eq_true rfl) hR1, Nat.le_trans (Nat.le_of_ble_eq_true rfl) hR2⟩ (fun sz => met_Model_isUsed l D cI cJ cZ a_t a_ends a_there a_one a_two a_what a_piece a_kinds a_group a_many a_pieceOf a_numberOf a_ups a_jointUp a_partner a_beyonds a_gone thrown made ends there tree items pieces joints nodes i3_3 _ sz) h rfl rfl rfl rfl rfl rfl (Nat.le_of_ble_eq_true rfl) ⟨Nat.zero_le _, Nat.zero_le _⟩ (q0 := 0) rfl rfl (fun r_7 h => ?_)
      refine A_if_eq K d_Model_isOne 17 52 (pc' := 29) rfl rfl rfl (fun q => ?_) (fun q => ?_)
      · replace h := h.1 q
        refine A_iinc K d_Model_isOne 33 3 (pc' := 55) (v := i3_3 + 1) (lv' := [(3, .int (i3_3 + 1)), (0, .ref a_t), (1, .int x1), (2, .int i2_2)]) rfl rfl rfl rfl (by decide) rfl ?_
        refine A_goto K d_Model_isOne 34 (pc' := 10) rfl rfl ?_
        refine A_lv [1, 2, 3, 0] rfl ?_
        exact ih_5 _ _ h
      · replace h := h.2 q
        refine A_iload_n K d_Model_isOne 18 2 (pc' := 30) rfl rfl rfl rfl ?_
        refine A_if_lt K d_Model_isOne 19 50 (pc' := 33) rfl rfl rfl (fun q => ?_) (fun q => ?_)
        · replace h := h.1 q
          refine A_iload_n K d_Model_isOne 31 3 (pc' := 51) rfl rfl rfl rfl ?_
          refine A_istore_n K d_Model_isOne 32 (pc' := 52) (lv' := [(2, .int i3_3), (0, .ref a_t), (1, .int x1), (3, .int i3_3)]) rfl rfl rfl (by decide) rfl ?_
          refine A_iinc K d_Model_isOne 33 3 (pc' := 55) (v := i3_3 + 1) (lv' := [(3, .int (i3_3 + 1)), (2, .int i3_3), (0, .ref a_t), (1, .int x1)]) rfl rfl rfl rfl (by decide) rfl ?_
          refine A_goto K d_Model_isOne 34 (pc' := 10) rfl rfl ?_
          refine A_lv [2, 3, 1, 0] rfl ?_
          exact ih_5 _ _ h
        · replace h := h.2 q
          refine A_aload_n K d_Model_isOne 20 0 (pc' := 34) rfl rfl rfl rfl ?_
          refine A_get K d_Model_isOne 21 0 fl_Model_32 (pc' := 37) rfl rfl rfl rfl ?_
          refine A_iload_n K d_Model_isOne 22 3 (pc' := 38) rfl rfl rfl rfl ?_
          refine A_iald K d_Model_isOne 23 3 0 (pc' := 39) rfl rfl rfl rfl h.1 ?_
          replace h := h.2
          refine A_aload_n K d_Model_isOne 24 0 (pc' := 40) rfl rfl rfl rfl ?_
          refine A_get K d_Model_isOne 25 0 fl_Model_32 (pc' := 43) rfl rfl rfl rfl ?_
          refine A_iload_n K d_Model_isOne 26 2 (pc' := 44) rfl rfl rfl rfl ?_
          refine A_iald K d_Model_isOne 27 3 0 (pc' := 45) rfl rfl rfl rfl h.1 ?_
          replace h := h.2
          refine A_icmp_eq K d_Model_isOne 28 50 (pc' := 48) rfl rfl rfl (fun q => ?_) (fun q => ?_)
          · replace h := h.1 q
            refine A_iload_n K d_Model_isOne 31 3 (pc' := 51) rfl rfl rfl rfl ?_
            refine A_istore_n K d_Model_isOne 32 (pc' := 52) (lv' := [(2, .int i3_3), (0, .ref a_t), (1, .int x1), (3, .int i3_3)]) rfl rfl rfl (by decide) rfl ?_
            refine A_iinc K d_Model_isOne 33 3 (pc' := 55) (v := i3_3 + 1) (lv' := [(3, .int (i3_3 + 1)), (2, .int i3_3), (0, .ref a_t), (1, .int x1)]) rfl rfl rfl rfl (by decide) rfl ?_
            refine A_goto K d_Model_isOne 34 (pc' := 10) rfl rfl ?_
            refine A_lv [2, 3, 1, 0] rfl ?_
            exact ih_5 _ _ h
          · replace h := h.2 q
            refine A_iconst K d_Model_isOne 29 (pc' := 49) (v := 0) rfl rfl (by decide) ?_
            exact hend 30 _ _ _ _ rfl (Or.inl rfl) h
theorem met_Model_isOne (l : Launch) (D : va_G) (cI cJ cZ : ClassId) (a_t a_ends a_there a_one a_two a_what a_piece a_kinds a_group a_many a_pieceOf a_numberOf a_ups a_jointUp a_partner a_beyonds a_gone : Nat) (thrown : Int32) (made : Int32) (ends : Nat → Int32) (there : Nat → Int32) (tree : Int32) (items : Int32) (pieces : Int32) (joints : Int32) (group : Nat → Int32) (nodes : Int32) (x1 : Int32) (post : Int32 → (Nat → Int32) → Prop) (sz : Nat) : Met l y_Model_isOne (Cond.code y_Model_isOne c_Model_isOne 4 (Option.some Jvm.ClassFile.FieldType.boolean) :: GW) { frames := 2, cells := 0, slots := 0, locals := 50 } (va_Pc [.ref a_t, .int x1] (fun U => sk_P D (tyl cI cJ cZ) (w_Model_isOne cI cJ cZ a_t a_ends a_there a_one a_two a_what a_piece a_kinds a_group a_many a_pieceOf a_numberOf a_ups a_jointUp a_partner a_beyonds a_gone thrown made ends there tree items pieces joints group nodes) sz U ∧ wp_Model_isOne made ends there group x1 post)) (va_Qi (fun (r : Int32) (u : (Nat → Int32)) => post r u) (fun u t => sk_B D (tyl cI cJ cZ) (w_Model_isOne cI cJ cZ a_t a_ends a_there a_one a_two a_what a_piece a_kinds a_group a_many a_pieceOf a_numberOf a_ups a_jointUp a_partner a_beyonds a_gone thrown made ends there tree items pieces joints u nodes) (va_A (w_Model_isOne cI cJ cZ a_t a_ends a_there a_one a_two a_what a_piece a_kinds a_group a_many a_pieceOf a_numberOf a_ups a_jointUp a_partner a_beyonds a_gone thrown made ends there tree items pieces joints group nodes) sz) t) (va_A (w_Model_isOne cI cJ cZ a_t a_ends a_there a_one a_two a_what a_piece a_kinds a_group a_many a_pieceOf a_numberOf a_ups a_jointUp a_partner a_beyonds a_gone thrown made ends there tree items pieces joints group nodes) sz)) 0 0 (va_A (w_Model_isOne cI cJ cZ a_t a_ends a_there a_one a_two a_what a_piece a_kinds a_group a_many a_pieceOf a_numberOf a_ups a_jointUp a_partner a_beyonds a_gone thrown made ends there tree items pieces joints group nodes) sz) :=
  sk_intro (by decide) (Nat.le_of_ble_eq_true rfl) (fun p e s m below meth c K hr _ h => bd_Model_isOne K (Nat.le_refl _) (Nat.le_refl _) (fun _ z => z) (fun ti pc r y0 lv hd hb hp => A_zret K d_Model_isOne ti hr (post := (fun (r : Int32) (u : (Nat → Int32)) => post r u)) (wl := fun (u : (Nat → Int32)) => w_Model_isOne cI cJ cZ a_t a_ends a_there a_one a_two a_what a_piece a_kinds a_group a_many a_pieceOf a_numberOf a_ups a_jointUp a_partner a_beyonds a_gone thrown made ends there tree items pieces joints u nodes) y0 hd hb hp) h)
/-! SkeletonTreeModel.isFit()Z -/
def t_Model_isFit : List (Nat × Instr × Nat) := [(0, .aload_n 0, 1), (1, .invokevirtual 91, 3), (4, .iconst 2, 1), (5, .if_icmp .le 15, 3), (8, .aload_n 0, 1), (9, .iconst (-1), 1), (10, .invokevirtual 95, 3), (13, .ifCond .eq 7, 3), (16, .iconst 1, 1), (17, .goto 4, 3), (20, .iconst 0, 1), (21, .istore_n 1, 1), (22, .iconst 0, 1), (23, .istore_n 2, 1), (24, .iload_n 2, 1), (25, .bipush 40, 2), (27, .if_icmp .ge 35, 3), (30, .iload_n 1, 1), (31, .ifCond .eq 23, 3), (34, .aload_n 0, 1), (35, .iload_n 2, 1), (36, .invokevirtual 88, 3), (39, .ifCond .eq 11, 3), (42, .aload_n 0, 1), (43, .iload_n 2, 1), (44, .invokevirtual 95, 3), (47, .ifCond .eq 7, 3), (50, .iconst 1, 1), (51, .goto 4, 3), (54, .iconst 0, 1), (55, .istore_n 1, 1), (56, .iinc 2 1, 3), (59, .goto (-35), 3), (62, .iload_n 1, 1), (63, .ireturn, 1)]
set_option maxRecDepth 100000 in
theorem d_Model_isFit : sk_T c_Model_isFit t_Model_isFit := by unfold sk_T t_Model_isFit; decide +kernel
def w_Model_isFit (cI cJ cZ : ClassId) (a_t a_ends a_there a_one a_two a_what a_piece a_kinds a_group a_many a_pieceOf a_numberOf a_ups a_jointUp a_partner a_beyonds a_gone : Nat) (thrown : Int32) (made : Int32) (ends : Nat → Int32) (there : Nat → Int32) (tree : Int32) (items : Int32) (pieces : Int32) (joints : Int32) (group : Nat → Int32) (nodes : Int32) : va_W := [(a_t, .inr (5, [.int thrown, .int made, .ref a_ends, .ref a_there, .int tree, .int items, .ref a_one, .ref a_two, .ref a_what, .ref a_piece, .int pieces, .int joints, .ref a_kinds, .ref a_group, .ref a_many, .int nodes, .ref a_pieceOf, .ref a_numberOf, .ref a_ups, .ref a_jointUp, .ref a_partner, .ref a_beyonds, .ref a_gone])), (a_ends, .inl (cI, 200, .inl ends)), (a_there, .inl (cZ, 100, .inl there)), (a_group, .inl (cI, 40, .inl group))]
def wp_Model_isFit  (thrown : Int32) (made : Int32) (ends : Nat → Int32) (there : Nat → Int32) (group : Nat → Int32)  (post : Int32 → Int32 → (Nat → Int32) → Prop) : Prop :=
  wp_Model_edges thrown made there (fun r_2 thrown_1 => jn2 (fun (z_3 : Int32) (group_4 : Nat → Int32) => ∃ n, sL3 (fun (K_12 : Int32 → Int32 → (Nat → Int32) → Prop) (i1_9 : Int32) (i2_10 : Int32) (group_11 : Nat → Int32) => (40 ≤ i2_10 → sk_b i1_9 ∧ post i1_9 thrown_1 group_11) ∧ (¬ 40 ≤ i2_10 → (i1_9 = 0 → K_12 0 (i2_10 + 1) group_11) ∧ (¬ i1_9 = 0 → wp_Model_isUsed made ends there i2_10 (fun r_15 => (r_15 = 0 → K_12 1 (i2_10 + 1) group_11) ∧ (¬ r_15 = 0 → wp_Model_isOne made ends there group_11 i2_10 (fun r_17 group_16 => (r_17 = 0 → K_12 0 (i2_10 + 1) group_16) ∧ (¬ r_17 = 0 → K_12 1 (i2_10 + 1) group_16))))))) n z_3 0 group_4) (fun (J_5 : Int32 → (Nat → Int32) → Prop) => (r_2 ≤ 2 → J_5 0 group) ∧ (¬ r_2 ≤ 2 → wp_Model_isOne made ends there group (-1) (fun r_8 group_7 => (r_8 = 0 → J_5 0 group_7) ∧ (¬ r_8 = 0 → J_5 1 group_7)))))
set_option maxHeartbeats 4000000 in
set_option maxRecDepth 100000 in
theorem bd_Model_isFit {p : Program} {l : Launch} {e : Env} {R : Room} {s : State} {m : MethodId} {args : Array Value} {below : List Frame} {meth : Method} {c : Code} {D : va_G} {A B : Nat → Prop} {Q : State → Prop} {cI cJ cZ : ClassId} {a_t a_ends a_there a_one a_two a_what a_piece a_kinds a_group a_many a_pieceOf a_numberOf a_ups a_jointUp a_partner a_beyonds a_gone : Nat} {thrown : Int32} {made : Int32} {ends : Nat → Int32} {there : Nat → Int32} {tree : Int32} {items : Int32} {pieces : Int32} {joints : Int32} {group : Nat → Int32} {nodes : Int32}  (K : sk_C p s m args meth c c_Model_isFit 3 "SkeletonTreeModel" D (tyl cI cJ cZ)) (hR1 : 3 ≤ R.frames) (hR2 : 73 ≤ R.locals) (hBA : ∀ q : Nat, B q → A q) {post : Int32 → Int32 → (Nat → Int32) → Prop} (hend : ∀ (ti pc : Nat) (r : Int32) (y0 : Int32) (y1 : Nat → Int32) (lv : List (Nat × Value)), t_Model_isFit[ti]? = some (pc, .ireturn, 1) → sk_b r → post r y0 y1 → AW p l e R s m args below meth c D A B 3 Q 0 0 (w_Model_isFit cI cJ cZ a_t a_ends a_there a_one a_two a_what a_piece a_kinds a_group a_many a_pieceOf a_numberOf a_ups a_jointUp a_partner a_beyonds a_gone y0 made ends there tree items pieces joints y1 nodes) lv pc [.int r]) (h : wp_Model_isFit thrown made ends there group post) : AW p l e R s m args below meth c D A B 3 Q 0 0 (w_Model_isFit cI cJ cZ a_t a_ends a_there a_one a_two a_what a_piece a_kinds a_group a_many a_pieceOf a_numberOf a_ups a_jointUp a_partner a_beyonds a_gone thrown made ends there tree items pieces joints group nodes) [(0, .ref a_t)] 0 [] := by
  unfold wp_Model_isFit at h
  refine A_aload_n K d_Model_isFit 0 0 (pc' := 1) rfl rfl rfl rfl ?_
  refine C_Vi1 K hBA d_Model_isFit 1 [0, 2] [some 0, none, some 1, none] (As := []) (rest := []) (pc' := 4) (wl := fun thrown_1 => w_Model_edges cI cJ cZ a_t a_ends a_there a_one a_two a_what a_piece a_kinds a_group a_many a_pieceOf a_numberOf a_ups a_jointUp a_partner a_beyonds a_gone thrown_1 made there tree items pieces joints nodes) (ws' := fun thrown_1 => w_Model_isFit cI cJ cZ a_t a_ends a_there a_one a_two a_what a_piece a_kinds a_group a_many a_pieceOf a_numberOf a_ups a_jointUp a_partner a_beyonds a_gone thrown_1 made ends there tree items pieces joints group nodes) v_Model_91 ⟨rfl, rfl, Nat.le_trans (Nat.le_of_ble_eq_true rfl) hR1, Nat.le_trans (Nat.le_of_ble_eq_true rfl) hR2⟩ (fun sz => met_Model_edges l D cI cJ cZ a_t a_ends a_there a_one a_two a_what a_piece a_kinds a_group a_many a_pieceOf a_numberOf a_ups a_jointUp a_partner a_beyonds a_gone thrown made there tree items pieces joints nodes _ sz) h rfl rfl rfl rfl rfl (fun _ => rfl) rfl (by decide) (Nat.le_of_ble_eq_true rfl) ⟨Nat.zero_le _, Nat.zero_le _⟩ (q0 := 0) rfl rfl (fun _ => rfl) (fun r_2 thrown_1 h => ?_)
  refine A_iconst K d_Model_isFit 2 (pc' := 5) (v := 2) rfl rfl (by decide) ?_
  refine jn2_use (fun (z_3 : Int32) (group_4 : Nat → Int32) => AW p l e R s m args below meth c D A B 3 Q 0 0 (w_Model_isFit cI cJ cZ a_t a_ends a_there a_one a_two a_what a_piece a_kinds a_group a_many a_pieceOf a_numberOf a_ups a_jointUp a_partner a_beyonds a_gone thrown_1 made ends there tree items pieces joints group_4 nodes) [(0, .ref a_t)] 21 [.int z_3]) h ?_ ?_
  · intro z_3 group_4 h
    refine A_istore_n K d_Model_isFit 11 (pc' := 22) (lv' := [(1, .int z_3), (0, .ref a_t)]) rfl rfl rfl (by decide) rfl ?_
    refine A_iconst K d_Model_isFit 12 (pc' := 23) (v := 0) rfl rfl (by decide) ?_
    refine A_istore_n K d_Model_isFit 13 (pc' := 24) (lv' := [(2, .int 0), (1, .int z_3), (0, .ref a_t)]) rfl rfl rfl (by decide) rfl ?_
    refine A_lv [2, 1, 0] rfl ?_
    obtain ⟨n_14, h⟩ := h
    refine sL3_ind (fun (i1_9 : Int32) (i2_10 : Int32) (group_11 : Nat → Int32) => AW p l e R s m args below meth c D A B 3 Q 0 0 (w_Model_isFit cI cJ cZ a_t a_ends a_there a_one a_two a_what a_piece a_kinds a_group a_many a_pieceOf a_numberOf a_ups a_jointUp a_partner a_beyonds a_gone thrown_1 made ends there tree items pieces joints group_11 nodes) [(0, .ref a_t), (1, .int i1_9), (2, .int i2_10)] 24 []) ?_ n_14 _ _ _ h
    intro K_12 ih_13 i1_9 i2_10 group_11 h
    refine A_iload_n K d_Model_isFit 14 2 (pc' := 25) rfl rfl rfl rfl ?_
    refine A_bipush K d_Model_isFit 15 (pc' := 27) (v := 40) rfl rfl (by decide) ?_
    refine A_icmp_ge K d_Model_isFit 16 62 (pc' := 30) rfl rfl rfl (fun q => ?_) (fun q => ?_)
    · replace h := h.1 q
      refine A_iload_n K d_Model_isFit 33 1 (pc' := 63) rfl rfl rfl rfl ?_
      exact hend 34 _ _ _ _ _ rfl h.1 h.2
    · replace h := h.2 q
      refine A_iload_n K d_Model_isFit 17 1 (pc' := 31) rfl rfl rfl rfl ?_
      refine A_if_eq K d_Model_isFit 18 54 (pc' := 34) rfl rfl rfl (fun q => ?_) (fun q => ?_)
      · replace h := h.1 q
        refine A_iconst K d_Model_isFit 29 (pc' := 55) (v := 0) rfl rfl (by decide) ?_
        refine A_istore_n K d_Model_isFit 30 (pc' := 56) (lv' := [(1, .int 0), (0, .ref a_t), (2, .int i2_10)]) rfl rfl rfl (by decide) rfl ?_
        refine A_iinc K d_Model_isFit 31 2 (pc' := 59) (v := i2_10 + 1) (lv' := [(2, .int (i2_10 + 1)), (1, .int 0), (0, .ref a_t)]) rfl rfl rfl rfl (by decide) rfl ?_
        refine A_goto K d_Model_isFit 32 (pc' := 24) rfl rfl ?_
        refine A_lv [2, 1, 0] rfl ?_
        exact ih_13 _ _ _ h
      · replace h := h.2 q
        refine A_aload_n K d_Model_isFit 19 0 (pc' := 35) rfl rfl rfl rfl ?_
        refine A_iload_n K d_Model_isFit 20 2 (pc' := 36) rfl rfl rfl rfl ?_
        refine R_callV_i K d_Model_isFit 21 [0, 1, 2] (As := [.int i2_10]) (rest := []) (pc' := 39) v_Model_88 ⟨rfl, rfl, Nat.le_trans (Nat.le_of_ble_eq_true rfl) hR1, Nat.le_trans (Nat.le_of_ble_eq_true rfl) hR2⟩ (fun sz => met_Model_isUsed l D cI cJ cZ a_t a_ends a_there a_one a_two a_what a_piece a_kinds a_group a_many a_pieceOf a_numberOf a_ups a_jointUp a_partner a_beyonds a_gone thrown_1 made ends there tree items pieces joints nodes i2_10 _ sz) h rfl rfl rfl rfl rfl rfl (Nat.le_of_ble_eq_true rfl) ⟨Nat.zero_le _, Nat.zero_le _⟩ (q0 := 0) rfl rfl (fun r_15 h => ?_)
        refine A_if_eq K d_Model_isFit 22 50 (pc' := 42) rfl rfl rfl (fun q => ?_) (fun q => ?_)
        · replace h := h.1 q
          refine A_iconst K d_Model_isFit 27 (pc' := 51) (v := 1) rfl rfl (by decide) ?_
          refine A_goto K d_Model_isFit 28 (pc' := 55) rfl rfl ?_
          refine A_istore_n K d_Model_isFit 30 (pc' := 56) (lv' := [(1, .int 1), (0, .ref a_t), (2, .int i2_10)]) rfl rfl rfl (by decide) rfl ?_
          refine A_iinc K d_Model_isFit 31 2 (pc' := 59) (v := i2_10 + 1) (lv' := [(2, .int (i2_10 + 1)), (1, .int 1), (0, .ref a_t)]) rfl rfl rfl rfl (by decide) rfl ?_
          refine A_goto K d_Model_isFit 32 (pc' := 24) rfl rfl ?_
          refine A_lv [2, 1, 0] rfl ?_
          exact ih_13 _ _ _ h
        · replace h := h.2 q
          refine A_aload_n K d_Model_isFit 23 0 (pc' := 43) rfl rfl rfl rfl ?_
          refine A_iload_n K d_Model_isFit 24 2 (pc' := 44) rfl rfl rfl rfl ?_
          refine C_Vi1 K hBA d_Model_isFit 25 [0, 1, 2, 3] [some 0, some 1, some 2, some 3] (As := [.int i2_10]) (rest := []) (pc' := 47) (wl := fun group_16 => w_Model_isOne cI cJ cZ a_t a_ends a_there a_one a_two a_what a_piece a_kinds a_group a_many a_pieceOf a_numberOf a_ups a_jointUp a_partner a_beyonds a_gone thrown_1 made ends there tree items pieces joints group_16 nodes) (ws' := fun group_16 => w_Model_isFit cI cJ cZ a_t a_ends a_there a_one a_two a_what a_piece a_kinds a_group a_many a_pieceOf a_numberOf a_ups a_jointUp a_partner a_beyonds a_gone thrown_1 made ends there tree items pieces joints group_16 nodes) v_Model_95 ⟨rfl, rfl, Nat.le_trans (Nat.le_of_ble_eq_true rfl) hR1, Nat.le_trans (Nat.le_of_ble_eq_true rfl) hR2⟩ (fun sz => met_Model_isOne l D cI cJ cZ a_t a_ends a_there a_one a_two a_what a_piece a_kinds a_group a_many a_pieceOf a_numberOf a_ups a_jointUp a_partner a_beyonds a_gone thrown_1 made ends there tree items pieces joints group_11 nodes i2_10 _ sz) h rfl rfl rfl rfl rfl (fun _ => rfl) rfl (by decide) (Nat.le_of_ble_eq_true rfl) ⟨Nat.zero_le _, Nat.zero_le _⟩ (q0 := 0) rfl rfl (fun _ => rfl) (fun r_17 group_16 h => ?_)
          refine A_if_eq K d_Model_isFit 26 54 (pc' := 50) rfl rfl rfl (fun q => ?_) (fun q => ?_)
          · replace h := h.1 q
            refine A_iconst K d_Model_isFit 29 (pc' := 55) (v := 0) rfl rfl (by decide) ?_
            refine A_istore_n K d_Model_isFit 30 (pc' := 56) (lv' := [(1, .int 0), (0, .ref a_t), (2, .int i2_10)]) rfl rfl rfl (by decide) rfl ?_
            refine A_iinc K d_Model_isFit 31 2 (pc' := 59) (v := i2_10 + 1) (lv' := [(2, .int (i2_10 + 1)), (1, .int 0), (0, .ref a_t)]) rfl rfl rfl rfl (by decide) rfl ?_
            refine A_goto K d_Model_isFit 32 (pc' := 24) rfl rfl ?_
            refine A_lv [2, 1, 0] rfl ?_
            exact ih_13 _ _ _ h
          · replace h := h.2 q
            refine A_iconst K d_Model_isFit 27 (pc' := 51) (v := 1) rfl rfl (by decide) ?_
            refine A_goto K d_Model_isFit 28 (pc' := 55) rfl rfl ?_
            refine A_istore_n K d_Model_isFit 30 (pc' := 56) (lv' := [(1, .int 1), (0, .ref a_t), (2, .int i2_10)]) rfl rfl rfl (by decide) rfl ?_
            refine A_iinc K d_Model_isFit 31 2 (pc' := 59) (v := i2_10 + 1) (lv' := [(2, .int (i2_10 + 1)), (1, .int 1), (0, .ref a_t)]) rfl rfl rfl rfl (by decide) rfl ?_
            refine A_goto K d_Model_isFit 32 (pc' := 24) rfl rfl ?_
            refine A_lv [2, 1, 0] rfl ?_
            exact ih_13 _ _ _ h
  · intro J_5 hJ_6 h
    refine A_icmp_le K d_Model_isFit 3 20 (pc' := 8) rfl rfl rfl (fun q => ?_) (fun q => ?_)
    · replace h := h.1 q
      refine A_iconst K d_Model_isFit 10 (pc' := 21) (v := 0) rfl rfl (by decide) ?_
      refine A_lv [0] rfl ?_
      exact hJ_6 _ _ h
    · replace h := h.2 q
      refine A_aload_n K d_Model_isFit 4 0 (pc' := 9) rfl rfl rfl rfl ?_
      refine A_iconst K d_Model_isFit 5 (pc' := 10) (v := (-1)) rfl rfl (by decide) ?_
      refine C_Vi1 K hBA d_Model_isFit 6 [0, 1, 2, 3] [some 0, some 1, some 2, some 3] (As := [.int (-1)]) (rest := []) (pc' := 13) (wl := fun group_7 => w_Model_isOne cI cJ cZ a_t a_ends a_there a_one a_two a_what a_piece a_kinds a_group a_many a_pieceOf a_numberOf a_ups a_jointUp a_partner a_beyonds a_gone thrown_1 made ends there tree items pieces joints group_7 nodes) (ws' := fun group_7 => w_Model_isFit cI cJ cZ a_t a_ends a_there a_one a_two a_what a_piece a_kinds a_group a_many a_pieceOf a_numberOf a_ups a_jointUp a_partner a_beyonds a_gone thrown_1 made ends there tree items pieces joints group_7 nodes) v_Model_95 ⟨rfl, rfl, Nat.le_trans (Nat.le_of_ble_eq_true rfl) hR1, Nat.le_trans (Nat.le_of_ble_eq_true rfl) hR2⟩ (fun sz => met_Model_isOne l D cI cJ cZ a_t a_ends a_there a_one a_two a_what a_piece a_kinds a_group a_many a_pieceOf a_numberOf a_ups a_jointUp a_partner a_beyonds a_gone thrown_1 made ends there tree items pieces joints group nodes (-1) _ sz) h rfl rfl rfl rfl rfl (fun _ => rfl) rfl (by decide) (Nat.le_of_ble_eq_true rfl) ⟨Nat.zero_le _, Nat.zero_le _⟩ (q0 := 0) rfl rfl (fun _ => rfl) (fun r_8 group_7 h => ?_)
      refine A_if_eq K d_Model_isFit 7 20 (pc' := 16) rfl rfl rfl (fun q => ?_) (fun q => ?_)
      · replace h := h.1 q
        refine A_iconst K d_Model_isFit 10 (pc' := 21) (v := 0) rfl rfl (by decide) ?_
        refine A_lv [0] rfl ?_
        exact hJ_6 _ _ h
      · replace h := h.2 q
        refine A_iconst K d_Model_isFit 8 (pc' := 17) (v := 1) rfl rfl (by decide) ?_
        refine A_goto K d_Model_isFit 9 (pc' := 21) rfl rfl ?_
        refine A_lv [0] rfl ?_
        exact hJ_6 _ _ h
theorem met_Model_isFit (l : Launch) (D : va_G) (cI cJ cZ : ClassId) (a_t a_ends a_there a_one a_two a_what a_piece a_kinds a_group a_many a_pieceOf a_numberOf a_ups a_jointUp a_partner a_beyonds a_gone : Nat) (thrown : Int32) (made : Int32) (ends : Nat → Int32) (there : Nat → Int32) (tree : Int32) (items : Int32) (pieces : Int32) (joints : Int32) (group : Nat → Int32) (nodes : Int32)  (post : Int32 → Int32 → (Nat → Int32) → Prop) (sz : Nat) : Met l y_Model_isFit (Cond.code y_Model_isFit c_Model_isFit 3 (Option.some Jvm.ClassFile.FieldType.boolean) :: GW) { frames := 3, cells := 0, slots := 0, locals := 73 } (va_Pc [.ref a_t] (fun U => sk_P D (tyl cI cJ cZ) (w_Model_isFit cI cJ cZ a_t a_ends a_there a_one a_two a_what a_piece a_kinds a_group a_many a_pieceOf a_numberOf a_ups a_jointUp a_partner a_beyonds a_gone thrown made ends there tree items pieces joints group nodes) sz U ∧ wp_Model_isFit thrown made ends there group post)) (va_Qi (fun (r : Int32) (u : Int32 × (Nat → Int32)) => post r u.1 u.2) (fun u t => sk_B D (tyl cI cJ cZ) (w_Model_isFit cI cJ cZ a_t a_ends a_there a_one a_two a_what a_piece a_kinds a_group a_many a_pieceOf a_numberOf a_ups a_jointUp a_partner a_beyonds a_gone u.1 made ends there tree items pieces joints u.2 nodes) (va_A (w_Model_isFit cI cJ cZ a_t a_ends a_there a_one a_two a_what a_piece a_kinds a_group a_many a_pieceOf a_numberOf a_ups a_jointUp a_partner a_beyonds a_gone thrown made ends there tree items pieces joints group nodes) sz) t) (va_A (w_Model_isFit cI cJ cZ a_t a_ends a_there a_one a_two a_what a_piece a_kinds a_group a_many a_pieceOf a_numberOf a_ups a_jointUp a_partner a_beyonds a_gone thrown made ends there tree items pieces joints group nodes) sz)) 0 0 (va_A (w_Model_isFit cI cJ cZ a_t a_ends a_there a_one a_two a_what a_piece a_kinds a_group a_many a_pieceOf a_numberOf a_ups a_jointUp a_partner a_beyonds a_gone thrown made ends there tree items pieces joints group nodes) sz) :=
  sk_intro (by decide) (Nat.le_of_ble_eq_true rfl) (fun p e s m below meth c K hr _ h => bd_Model_isFit K (Nat.le_refl _) (Nat.le_refl _) (fun _ z => z) (fun ti pc r y0 y1 lv hd hb hp => A_zret K d_Model_isFit ti hr (post := (fun (r : Int32) (u : Int32 × (Nat → Int32)) => post r u.1 u.2)) (wl := fun (u : Int32 × (Nat → Int32)) => w_Model_isFit cI cJ cZ a_t a_ends a_there a_one a_two a_what a_piece a_kinds a_group a_many a_pieceOf a_numberOf a_ups a_jointUp a_partner a_beyonds a_gone u.1 made ends there tree items pieces joints u.2 nodes) (y0, y1) hd hb hp) h)
/-! SkeletonTreeModel.add(IIII)V -/
def t_Model_add : List (Nat × Instr × Nat) := [(0, .aload_n 0, 1), (1, .getfield 17, 3), (4, .aload_n 0, 1), (5, .getfield 98, 3), (8, .iload_n 1, 1), (9, .iastore, 1), (10, .aload_n 0, 1), (11, .getfield 20, 3), (14, .aload_n 0, 1), (15, .getfield 98, 3), (18, .iload_n 2, 1), (19, .iastore, 1), (20, .aload_n 0, 1), (21, .getfield 23, 3), (24, .aload_n 0, 1), (25, .getfield 98, 3), (28, .iload_n 3, 1), (29, .iastore, 1), (30, .aload_n 0, 1), (31, .getfield 26, 3), (34, .aload_n 0, 1), (35, .getfield 98, 3), (38, .iload 4, 2), (40, .iastore, 1), (41, .aload_n 0, 1), (42, .dup, 1), (43, .getfield 98, 3), (46, .iconst 1, 1), (47, .iadd, 1), (48, .putfield 98, 3), (51, .return_, 1)]
set_option maxRecDepth 100000 in
theorem d_Model_add : sk_T c_Model_add t_Model_add := by unfold sk_T t_Model_add; decide +kernel
def w_Model_add (cI cJ cZ : ClassId) (a_t a_ends a_there a_one a_two a_what a_piece a_kinds a_group a_many a_pieceOf a_numberOf a_ups a_jointUp a_partner a_beyonds a_gone : Nat) (thrown : Int32) (made : Int32) (tree : Int32) (items : Int32) (one : Nat → Int32) (two : Nat → Int32) (what : Nat → Int32) (piece : Nat → Int32) (pieces : Int32) (joints : Int32) (nodes : Int32) : va_W := [(a_t, .inr (5, [.int thrown, .int made, .ref a_ends, .ref a_there, .int tree, .int items, .ref a_one, .ref a_two, .ref a_what, .ref a_piece, .int pieces, .int joints, .ref a_kinds, .ref a_group, .ref a_many, .int nodes, .ref a_pieceOf, .ref a_numberOf, .ref a_ups, .ref a_jointUp, .ref a_partner, .ref a_beyonds, .ref a_gone])), (a_one, .inl (cI, 320, .inl one)), (a_two, .inl (cI, 320, .inl two)), (a_what, .inl (cI, 320, .inl what)), (a_piece, .inl (cI, 320, .inl piece))]
def wp_Model_add  (items : Int32) (one : Nat → Int32) (two : Nat → Int32) (what : Nat → Int32) (piece : Nat → Int32) (x1 : Int32) (x2 : Int32) (x3 : Int32) (x4 : Int32) (post : Int32 → (Nat → Int32) → (Nat → Int32) → (Nat → Int32) → (Nat → Int32) → Prop) : Prop :=
  vp_in items 320 ∧ ∀ one_1 : Nat → Int32, one_1 = upd one (ix items) x1 → vp_in items 320 ∧ ∀ two_3 : Nat → Int32, two_3 = upd two (ix items) x2 → vp_in items 320 ∧ ∀ what_5 : Nat → Int32, what_5 = upd what (ix items) x3 → vp_in items 320 ∧ ∀ piece_7 : Nat → Int32, piece_7 = upd piece (ix items) x4 → post (items + 1) one_1 two_3 what_5 piece_7
set_option maxHeartbeats 4000000 in
set_option maxRecDepth 100000 in
theorem bd_Model_add {p : Program} {l : Launch} {e : Env} {R : Room} {s : State} {m : MethodId} {args : Array Value} {below : List Frame} {meth : Method} {c : Code} {D : va_G} {A B : Nat → Prop} {Q : State → Prop} {cI cJ cZ : ClassId} {a_t a_ends a_there a_one a_two a_what a_piece a_kinds a_group a_many a_pieceOf a_numberOf a_ups a_jointUp a_partner a_beyonds a_gone : Nat} {thrown : Int32} {made : Int32} {tree : Int32} {items : Int32} {one : Nat → Int32} {two : Nat → Int32} {what : Nat → Int32} {piece : Nat → Int32} {pieces : Int32} {joints : Int32} {nodes : Int32} {x1 : Int32} {x2 : Int32} {x3 : Int32} {x4 : Int32} (K : sk_C p s m args meth c c_Model_add 5 "SkeletonTreeModel" D (tyl cI cJ cZ)) (hR1 : 0 ≤ R.frames) (hR2 : 0 ≤ R.locals) (hBA : ∀ q : Nat, B q → A q) {post : Int32 → (Nat → Int32) → (Nat → Int32) → (Nat → Int32) → (Nat → Int32) → Prop} (hend : ∀ (ti pc : Nat)  (y0 : Int32) (y1 : Nat → Int32) (y2 : Nat → Int32) (y3 : Nat → Int32) (y4 : Nat → Int32) (lv : List (Nat × Value)), t_Model_add[ti]? = some (pc, .return_, 1) → post  y0 y1 y2 y3 y4 → AW p l e R s m args below meth c D A B 5 Q 0 0 (w_Model_add cI cJ cZ a_t a_ends a_there a_one a_two a_what a_piece a_kinds a_group a_many a_pieceOf a_numberOf a_ups a_jointUp a_partner a_beyonds a_gone thrown made tree y0 y1 y2 y3 y4 pieces joints nodes) lv pc []) (h : wp_Model_add items one two what piece x1 x2 x3 x4 post) : AW p l e R s m args below meth c D A B 5 Q 0 0 (w_Model_add cI cJ cZ a_t a_ends a_there a_one a_two a_what a_piece a_kinds a_group a_many a_pieceOf a_numberOf a_ups a_jointUp a_partner a_beyonds a_gone thrown made tree items one two what piece pieces joints nodes) [(0, .ref a_t), (1, .int x1), (2, .int x2), (3, .int x3), (4, .int x4)] 0 [] := by
  unfold wp_Model_add at h
  refine A_aload_n K d_Model_add 0 0 (pc' := 1) rfl rfl rfl rfl ?_
  refine A_get K d_Model_add 1 0 fl_Model_17 (pc' := 4) rfl rfl rfl rfl ?_
  refine A_aload_n K d_Model_add 2 0 (pc' := 5) rfl rfl rfl rfl ?_
  refine A_get K d_Model_add 3 0 fl_Model_98 (pc' := 8) rfl rfl rfl rfl ?_
  refine A_iload_n K d_Model_add 4 1 (pc' := 9) rfl rfl rfl rfl ?_
  refine A_iastN K hBA d_Model_add 5 1 0 (pc' := 10) (ws' := fun one_1 => w_Model_add cI cJ cZ a_t a_ends a_there a_one a_two a_what a_piece a_kinds a_group a_many a_pieceOf a_numberOf a_ups a_jointUp a_partner a_beyonds a_gone thrown made tree items one_1 two what piece pieces joints nodes) rfl rfl rfl rfl h.1 (fun _ => rfl) (fun one_1 e_2 => ?_)
  replace h := h.2 one_1 e_2
  refine A_aload_n K d_Model_add 6 0 (pc' := 11) rfl rfl rfl rfl ?_
  refine A_get K d_Model_add 7 0 fl_Model_20 (pc' := 14) rfl rfl rfl rfl ?_
  refine A_aload_n K d_Model_add 8 0 (pc' := 15) rfl rfl rfl rfl ?_
  refine A_get K d_Model_add 9 0 fl_Model_98 (pc' := 18) rfl rfl rfl rfl ?_
  refine A_iload_n K d_Model_add 10 2 (pc' := 19) rfl rfl rfl rfl ?_
  refine A_iastN K hBA d_Model_add 11 2 0 (pc' := 20) (ws' := fun two_3 => w_Model_add cI cJ cZ a_t a_ends a_there a_one a_two a_what a_piece a_kinds a_group a_many a_pieceOf a_numberOf a_ups a_jointUp a_partner a_beyonds a_gone thrown made tree items one_1 two_3 what piece pieces joints nodes) rfl rfl rfl rfl h.1 (fun _ => rfl) (fun two_3 e_4 => ?_)
  replace h := h.2 two_3 e_4
  refine A_aload_n K d_Model_add 12 0 (pc' := 21) rfl rfl rfl rfl ?_
  refine A_get K d_Model_add 13 0 fl_Model_23 (pc' := 24) rfl rfl rfl rfl ?_
  refine A_aload_n K d_Model_add 14 0 (pc' := 25) rfl rfl rfl rfl ?_
  refine A_get K d_Model_add 15 0 fl_Model_98 (pc' := 28) rfl rfl rfl rfl ?_
  refine A_iload_n K d_Model_add 16 3 (pc' := 29) rfl rfl rfl rfl ?_
  refine A_iastN K hBA d_Model_add 17 3 0 (pc' := 30) (ws' := fun what_5 => w_Model_add cI cJ cZ a_t a_ends a_there a_one a_two a_what a_piece a_kinds a_group a_many a_pieceOf a_numberOf a_ups a_jointUp a_partner a_beyonds a_gone thrown made tree items one_1 two_3 what_5 piece pieces joints nodes) rfl rfl rfl rfl h.1 (fun _ => rfl) (fun what_5 e_6 => ?_)
  replace h := h.2 what_5 e_6
  refine A_aload_n K d_Model_add 18 0 (pc' := 31) rfl rfl rfl rfl ?_
  refine A_get K d_Model_add 19 0 fl_Model_26 (pc' := 34) rfl rfl rfl rfl ?_
  refine A_aload_n K d_Model_add 20 0 (pc' := 35) rfl rfl rfl rfl ?_
  refine A_get K d_Model_add 21 0 fl_Model_98 (pc' := 38) rfl rfl rfl rfl ?_
  refine A_iload K d_Model_add 22 4 (pc' := 40) rfl rfl rfl ?_
  refine A_iastN K hBA d_Model_add 23 4 0 (pc' := 41) (ws' := fun piece_7 => w_Model_add cI cJ cZ a_t a_ends a_there a_one a_two a_what a_piece a_kinds a_group a_many a_pieceOf a_numberOf a_ups a_jointUp a_partner a_beyonds a_gone thrown made tree items one_1 two_3 what_5 piece_7 pieces joints nodes) rfl rfl rfl rfl h.1 (fun _ => rfl) (fun piece_7 e_8 => ?_)
  replace h := h.2 piece_7 e_8
  refine A_aload_n K d_Model_add 24 0 (pc' := 42) rfl rfl rfl rfl ?_
  refine A_dup K d_Model_add 25 (pc' := 43) rfl rfl rfl ?_
  refine A_get K d_Model_add 26 0 fl_Model_98 (pc' := 46) rfl rfl rfl rfl ?_
  refine A_iconst K d_Model_add 27 (pc' := 47) (v := 1) rfl rfl (by decide) ?_
  refine A_iadd K d_Model_add 28 (pc' := 48) rfl rfl ?_
  refine A_put K hBA d_Model_add 29 0 fp_Model_98 (pc' := 51) (ws' := w_Model_add cI cJ cZ a_t a_ends a_there a_one a_two a_what a_piece a_kinds a_group a_many a_pieceOf a_numberOf a_ups a_jointUp a_partner a_beyonds a_gone thrown made tree (items + 1) one_1 two_3 what_5 piece_7 pieces joints nodes) rfl rfl rfl (Nat.le_of_ble_eq_true rfl) rfl rfl rfl ?_
  exact hend 30 _ _ _ _ _ _ _ rfl h
theorem met_Model_add (l : Launch) (D : va_G) (cI cJ cZ : ClassId) (a_t a_ends a_there a_one a_two a_what a_piece a_kinds a_group a_many a_pieceOf a_numberOf a_ups a_jointUp a_partner a_beyonds a_gone : Nat) (thrown : Int32) (made : Int32) (tree : Int32) (items : Int32) (one : Nat → Int32) (two : Nat → Int32) (what : Nat → Int32) (piece : Nat → Int32) (pieces : Int32) (joints : Int32) (nodes : Int32) (x1 : Int32) (x2 : Int32) (x3 : Int32) (x4 : Int32) (post : Int32 → (Nat → Int32) → (Nat → Int32) → (Nat → Int32) → (Nat → Int32) → Prop) (sz : Nat) : Met l y_Model_add (Cond.code y_Model_add c_Model_add 5 (Option.none : Option Jvm.ClassFile.FieldType) :: GW) { frames := 0, cells := 0, slots := 0, locals := 0 } (va_Pc [.ref a_t, .int x1, .int x2, .int x3, .int x4] (fun U => sk_P D (tyl cI cJ cZ) (w_Model_add cI cJ cZ a_t a_ends a_there a_one a_two a_what a_piece a_kinds a_group a_many a_pieceOf a_numberOf a_ups a_jointUp a_partner a_beyonds a_gone thrown made tree items one two what piece pieces joints nodes) sz U ∧ wp_Model_add items one two what piece x1 x2 x3 x4 post)) (va_Qv (fun (u : Int32 × (Nat → Int32) × (Nat → Int32) × (Nat → Int32) × (Nat → Int32)) => post  u.1 u.2.1 u.2.2.1 u.2.2.2.1 u.2.2.2.2) (fun u t => sk_B D (tyl cI cJ cZ) (w_Model_add cI cJ cZ a_t a_ends a_there a_one a_two a_what a_piece a_kinds a_group a_many a_pieceOf a_numberOf a_ups a_jointUp a_partner a_beyonds a_gone thrown made tree u.1 u.2.1 u.2.2.1 u.2.2.2.1 u.2.2.2.2 pieces joints nodes) (va_A (w_Model_add cI cJ cZ a_t a_ends a_there a_one a_two a_what a_piece a_kinds a_group a_many a_pieceOf a_numberOf a_ups a_jointUp a_partner a_beyonds a_gone thrown made tree items one two what piece pieces joints nodes) sz) t) (va_A (w_Model_add cI cJ cZ a_t a_ends a_there a_one a_two a_what a_piece a_kinds a_group a_many a_pieceOf a_numberOf a_ups a_jointUp a_partner a_beyonds a_gone thrown made tree items one two what piece pieces joints nodes) sz)) 0 0 (va_A (w_Model_add cI cJ cZ a_t a_ends a_there a_one a_two a_what a_piece a_kinds a_group a_many a_pieceOf a_numberOf a_ups a_jointUp a_partner a_beyonds a_gone thrown made tree items one two what piece pieces joints nodes) sz) :=
  sk_intro (by decide) (Nat.le_of_ble_eq_true rfl) (fun p e s m below meth c K hr _ h => bd_Model_add K (Nat.le_refl _) (Nat.le_refl _) (fun _ z => z) (fun ti pc y0 y1 y2 y3 y4 lv hd hp => A_vret K d_Model_add ti hr (post := (fun (u : Int32 × (Nat → Int32) × (Nat → Int32) × (Nat → Int32) × (Nat → Int32)) => post  u.1 u.2.1 u.2.2.1 u.2.2.2.1 u.2.2.2.2)) (wl := fun (u : Int32 × (Nat → Int32) × (Nat → Int32) × (Nat → Int32) × (Nat → Int32)) => w_Model_add cI cJ cZ a_t a_ends a_there a_one a_two a_what a_piece a_kinds a_group a_many a_pieceOf a_numberOf a_ups a_jointUp a_partner a_beyonds a_gone thrown made tree u.1 u.2.1 u.2.2.1 u.2.2.2.1 u.2.2.2.2 pieces joints nodes) (y0, y1, y2, y3, y4) hd hp) h)
/-! SkeletonTreeModel.touches(II)Z -/
def t_Model_touches : List (Nat × Instr × Nat) := [(0, .aload_n 0, 1), (1, .getfield 17, 3), (4, .iload_n 1, 1), (5, .iaload, 1), (6, .iload_n 2, 1), (7, .if_icmp .eq 13, 3), (10, .aload_n 0, 1), (11, .getfield 20, 3), (14, .iload_n 1, 1), (15, .iaload, 1), (16, .iload_n 2, 1), (17, .if_icmp .ne 7, 3), (20, .iconst 1, 1), (21, .goto 4, 3), (24, .iconst 0, 1), (25, .ireturn, 1)]
set_option maxRecDepth 100000 in
theorem d_Model_touches : sk_T c_Model_touches t_Model_touches := by unfold sk_T t_Model_touches; decide +kernel
def w_Model_touches (cI cJ cZ : ClassId) (a_t a_ends a_there a_one a_two a_what a_piece a_kinds a_group a_many a_pieceOf a_numberOf a_ups a_jointUp a_partner a_beyonds a_gone : Nat) (thrown : Int32) (made : Int32) (tree : Int32) (items : Int32) (one : Nat → Int32) (two : Nat → Int32) (pieces : Int32) (joints : Int32) (nodes : Int32) : va_W := [(a_t, .inr (5, [.int thrown, .int made, .ref a_ends, .ref a_there, .int tree, .int items, .ref a_one, .ref a_two, .ref a_what, .ref a_piece, .int pieces, .int joints, .ref a_kinds, .ref a_group, .ref a_many, .int nodes, .ref a_pieceOf, .ref a_numberOf, .ref a_ups, .ref a_jointUp, .ref a_partner, .ref a_beyonds, .ref a_gone])), (a_one, .inl (cI, 320, .inl one)), (a_two, .inl (cI, 320, .inl two))]
def wp_Model_touches  (one : Nat → Int32) (two : Nat → Int32) (x1 : Int32) (x2 : Int32) (post : Int32 → Prop) : Prop :=
  vp_in x1 320 ∧ ((one (ix x1)) = x2 → post 1 ) ∧ (¬ (one (ix x1)) = x2 → vp_in x1 320 ∧ (¬ (two (ix x1)) = x2 → post 0 ) ∧ ((two (ix x1)) = x2 → post 1 ))
set_option maxHeartbeats 4000000 in
set_option maxRecDepth 100000 in
theorem bd_Model_touches {p : Program} {l : Launch} {e : Env} {R : Room} {s : State} {m : MethodId} {args : Array Value} {below : List Frame} {meth : Method} {c : Code} {D : va_G} {A B : Nat → Prop} {Q : State → Prop} {cI cJ cZ : ClassId} {a_t a_ends a_there a_one a_two a_what a_piece a_kinds a_group a_many a_pieceOf a_numberOf a_ups a_jointUp a_partner a_beyonds a_gone : Nat} {thrown : Int32} {made : Int32} {tree : Int32} {items : Int32} {one : Nat → Int32} {two : Nat → Int32} {pieces : Int32} {joints : Int32} {nodes : Int32} {x1 : Int32} {x2 : Int32} (K : sk_C p s m args meth c c_Model_touches 3 "SkeletonTreeModel" D (tyl cI cJ cZ)) (hR1 : 0 ≤ R.frames) (hR2 : 0 ≤ R.locals) {post : Int32 → Prop} (hend : ∀ (ti pc : Nat) (r : Int32)  (lv : List (Nat × Value)), t_Model_touches[ti]? = some (pc, .ireturn, 1) → sk_b r → post r  → AW p l e R s m args below meth c D A B 3 Q 0 0 (w_Model_touches cI cJ cZ a_t a_ends a_there a_one a_two a_what a_piece a_kinds a_group a_many a_pieceOf a_numberOf a_ups a_jointUp a_partner a_beyonds a_gone thrown made tree items one two pieces joints nodes) lv pc [.int r]) (h : wp_Model_touches one two x1 x2 post) : AW p l e R s m args below meth c D A B 3 Q 0 0 (w_Model_touches cI cJ cZ a_t a_ends a_there a_one a_two a_what a_piece a_kinds a_group a_many a_pieceOf a_numberOf a_ups a_jointUp a_partner a_beyonds a_gone thrown made tree items one two pieces joints nodes) [(0, .ref a_t), (1, .int x1), (2, .int x2)] 0 [] := by
  unfold wp_Model_touches at h
  refine A_aload_n K d_Model_touches 0 0 (pc' := 1) rfl rfl rfl rfl ?_
  refine A_get K d_Model_touches 1 0 fl_Model_17 (pc' := 4) rfl rfl rfl rfl ?_
  refine A_iload_n K d_Model_touches 2 1 (pc' := 5) rfl rfl rfl rfl ?_
  refine A_iald K d_Model_touches 3 1 0 (pc' := 6) rfl rfl rfl rfl h.1 ?_
  replace h := h.2
  refine A_iload_n K d_Model_touches 4 2 (pc' := 7) rfl rfl rfl rfl ?_
  refine A_icmp_eq K d_Model_touches 5 20 (pc' := 10) rfl rfl rfl (fun q => ?_) (fun q => ?_)
  · replace h := h.1 q
    refine A_iconst K d_Model_touches 12 (pc' := 21) (v := 1) rfl rfl (by decide) ?_
    refine A_goto K d_Model_touches 13 (pc' := 25) rfl rfl ?_
    exact hend 15 _ _ _ rfl (Or.inr rfl) h
  · replace h := h.2 q
    refine A_aload_n K d_Model_touches 6 0 (pc' := 11) rfl rfl rfl rfl ?_
    refine A_get K d_Model_touches 7 0 fl_Model_20 (pc' := 14) rfl rfl rfl rfl ?_
    refine A_iload_n K d_Model_touches 8 1 (pc' := 15) rfl rfl rfl rfl ?_
    refine A_iald K d_Model_touches 9 2 0 (pc' := 16) rfl rfl rfl rfl h.1 ?_
    replace h := h.2
    refine A_iload_n K d_Model_touches 10 2 (pc' := 17) rfl rfl rfl rfl ?_
    refine A_icmp_ne K d_Model_touches 11 24 (pc' := 20) rfl rfl rfl (fun q => ?_) (fun q => ?_)
    · replace h := h.1 q
      refine A_iconst K d_Model_touches 14 (pc' := 25) (v := 0) rfl rfl (by decide) ?_
      exact hend 15 _ _ _ rfl (Or.inl rfl) h
    · replace h := h.2 q
      refine A_iconst K d_Model_touches 12 (pc' := 21) (v := 1) rfl rfl (by decide) ?_
      refine A_goto K d_Model_touches 13 (pc' := 25) rfl rfl ?_
      exact hend 15 _ _ _ rfl (Or.inr rfl) h
theorem met_Model_touches (l : Launch) (D : va_G) (cI cJ cZ : ClassId) (a_t a_ends a_there a_one a_two a_what a_piece a_kinds a_group a_many a_pieceOf a_numberOf a_ups a_jointUp a_partner a_beyonds a_gone : Nat) (thrown : Int32) (made : Int32) (tree : Int32) (items : Int32) (one : Nat → Int32) (two : Nat → Int32) (pieces : Int32) (joints : Int32) (nodes : Int32) (x1 : Int32) (x2 : Int32) (post : Int32 → Prop) (sz : Nat) : Met l y_Model_touches (Cond.code y_Model_touches c_Model_touches 3 (Option.some Jvm.ClassFile.FieldType.boolean) :: GW) { frames := 0, cells := 0, slots := 0, locals := 0 } (va_Pc [.ref a_t, .int x1, .int x2] (fun U => sk_P D (tyl cI cJ cZ) (w_Model_touches cI cJ cZ a_t a_ends a_there a_one a_two a_what a_piece a_kinds a_group a_many a_pieceOf a_numberOf a_ups a_jointUp a_partner a_beyonds a_gone thrown made tree items one two pieces joints nodes) sz U ∧ wp_Model_touches one two x1 x2 post)) (va_Qi (fun (r : Int32) (_ : Unit) => post r) (fun _ t => sk_B D (tyl cI cJ cZ) (w_Model_touches cI cJ cZ a_t a_ends a_there a_one a_two a_what a_piece a_kinds a_group a_many a_pieceOf a_numberOf a_ups a_jointUp a_partner a_beyonds a_gone thrown made tree items one two pieces joints nodes) (fun _ => True) t) (fun q => sz ≤ q)) 0 0 (fun q => sz ≤ q) :=
  sk_introR (by decide) (Nat.le_of_ble_eq_true rfl) (fun p e s m below meth c K hr _ h => bd_Model_touches K (Nat.le_refl _) (Nat.le_refl _) (fun ti pc r  lv hd hb hp => A_zret K d_Model_touches ti hr (post := (fun (r : Int32) (_ : Unit) => post r)) (wl := fun (_ : Unit) => w_Model_touches cI cJ cZ a_t a_ends a_there a_one a_two a_what a_piece a_kinds a_group a_many a_pieceOf a_numberOf a_ups a_jointUp a_partner a_beyonds a_gone thrown made tree items one two pieces joints nodes) () hd hb hp) h)
/-! SkeletonTreeModel.isBetween(III)Z -/
def t_Model_isBetween : List (Nat × Instr × Nat) := [(0, .aload_n 0, 1), (1, .iload_n 1, 1), (2, .iload_n 2, 1), (3, .invokevirtual 101, 3), (6, .ifCond .eq 16, 3), (9, .aload_n 0, 1), (10, .iload_n 1, 1), (11, .iload_n 3, 1), (12, .invokevirtual 101, 3), (15, .ifCond .eq 7, 3), (18, .iconst 1, 1), (19, .goto 4, 3), (22, .iconst 0, 1), (23, .ireturn, 1)]
set_option maxRecDepth 100000 in
theorem d_Model_isBetween : sk_T c_Model_isBetween t_Model_isBetween := by unfold sk_T t_Model_isBetween; decide +kernel
def w_Model_isBetween (cI cJ cZ : ClassId) (a_t a_ends a_there a_one a_two a_what a_piece a_kinds a_group a_many a_pieceOf a_numberOf a_ups a_jointUp a_partner a_beyonds a_gone : Nat) (thrown : Int32) (made : Int32) (tree : Int32) (items : Int32) (one : Nat → Int32) (two : Nat → Int32) (pieces : Int32) (joints : Int32) (nodes : Int32) : va_W := [(a_t, .inr (5, [.int thrown, .int made, .ref a_ends, .ref a_there, .int tree, .int items, .ref a_one, .ref a_two, .ref a_what, .ref a_piece, .int pieces, .int joints, .ref a_kinds, .ref a_group, .ref a_many, .int nodes, .ref a_pieceOf, .ref a_numberOf, .ref a_ups, .ref a_jointUp, .ref a_partner, .ref a_beyonds, .ref a_gone])), (a_one, .inl (cI, 320, .inl one)), (a_two, .inl (cI, 320, .inl two))]
def wp_Model_isBetween  (one : Nat → Int32) (two : Nat → Int32) (x1 : Int32) (x2 : Int32) (x3 : Int32) (post : Int32 → Prop) : Prop :=
  wp_Model_touches one two x1 x2 (fun r_1 => (r_1 = 0 → post 0 ) ∧ (¬ r_1 = 0 → wp_Model_touches one two x1 x3 (fun r_2 => (r_2 = 0 → post 0 ) ∧ (¬ r_2 = 0 → post 1 ))))
set_option maxHeartbeats 4000000 in
set_option maxRecDepth 100000 in
theorem bd_Model_isBetween {p : Program} {l : Launch} {e : Env} {R : Room} {s : State} {m : MethodId} {args : Array Value} {below : List Frame} {meth : Method} {c : Code} {D : va_G} {A B : Nat → Prop} {Q : State → Prop} {cI cJ cZ : ClassId} {a_t a_ends a_there a_one a_two a_what a_piece a_kinds a_group a_many a_pieceOf a_numberOf a_ups a_jointUp a_partner a_beyonds a_gone : Nat} {thrown : Int32} {made : Int32} {tree : Int32} {items : Int32} {one : Nat → Int32} {two : Nat → Int32} {pieces : Int32} {joints : Int32} {nodes : Int32} {x1 : Int32} {x2 : Int32} {x3 : Int32} (K : sk_C p s m args meth c c_Model_isBetween 4 "SkeletonTreeModel" D (tyl cI cJ cZ)) (hR1 : 1 ≤ R.frames) (hR2 : 22 ≤ R.locals) {post : Int32 → Prop} (hend : ∀ (ti pc : Nat) (r : Int32)  (lv : List (Nat × Value)), t_Model_isBetween[ti]? = some (pc, .ireturn, 1) → sk_b r → post r  → AW p l e R s m args below meth c D A B 4 Q 0 0 (w_Model_isBetween cI cJ cZ a_t a_ends a_there a_one a_two a_what a_piece a_kinds a_group a_many a_pieceOf a_numberOf a_ups a_jointUp a_partner a_beyonds a_gone thrown made tree items one two pieces joints nodes) lv pc [.int r]) (h : wp_Model_isBetween one two x1 x2 x3 post) : AW p l e R s m args below meth c D A B 4 Q 0 0 (w_Model_isBetween cI cJ cZ a_t a_ends a_there a_one a_two a_what a_piece a_kinds a_group a_many a_pieceOf a_numberOf a_ups a_jointUp a_partner a_beyonds a_gone thrown made tree items one two pieces joints nodes) [(0, .ref a_t), (1, .int x1), (2, .int x2), (3, .int x3)] 0 [] := by
  unfold wp_Model_isBetween at h
  refine A_aload_n K d_Model_isBetween 0 0 (pc' := 1) rfl rfl rfl rfl ?_
  refine A_iload_n K d_Model_isBetween 1 1 (pc' := 2) rfl rfl rfl rfl ?_
  refine A_iload_n K d_Model_isBetween 2 2 (pc' := 3) rfl rfl rfl rfl ?_
  refine R_callV_i K d_Model_isBetween 3 [0, 1, 2] (As := [.int x1, .int x2]) (rest := []) (pc' := 6) v_Model_101 ⟨rfl, rfl, Nat.le_trans (Nat.le_of_ble_eq_true rfl) hR1, Nat.le_trans (Nat.le_of_ble_eq_true rfl) hR2⟩ (fun sz => met_Model_touches l D cI cJ cZ a_t a_ends a_there a_one a_two a_what a_piece a_kinds a_group a_many a_pieceOf a_numberOf a_ups a_jointUp a_partner a_beyonds a_gone thrown made tree items one two pieces joints nodes x1 x2 _ sz) h rfl rfl rfl rfl rfl rfl (Nat.le_of_ble_eq_true rfl) ⟨Nat.zero_le _, Nat.zero_le _⟩ (q0 := 0) rfl rfl (fun r_1 h => ?_)
  refine A_if_eq K d_Model_isBetween 4 22 (pc' := 9) rfl rfl rfl (fun q => ?_) (fun q => ?_)
  · replace h := h.1 q
    refine A_iconst K d_Model_isBetween 12 (pc' := 23) (v := 0) rfl rfl (by decide) ?_
    exact hend 13 _ _ _ rfl (Or.inl rfl) h
  · replace h := h.2 q
    refine A_aload_n K d_Model_isBetween 5 0 (pc' := 10) rfl rfl rfl rfl ?_
    refine A_iload_n K d_Model_isBetween 6 1 (pc' := 11) rfl rfl rfl rfl ?_
    refine A_iload_n K d_Model_isBetween 7 3 (pc' := 12) rfl rfl rfl rfl ?_
    refine R_callV_i K d_Model_isBetween 8 [0, 1, 2] (As := [.int x1, .int x3]) (rest := []) (pc' := 15) v_Model_101 ⟨rfl, rfl, Nat.le_trans (Nat.le_of_ble_eq_true rfl) hR1, Nat.le_trans (Nat.le_of_ble_eq_true rfl) hR2⟩ (fun sz => met_Model_touches l D cI cJ cZ a_t a_ends a_there a_one a_two a_what a_piece a_kinds a_group a_many a_pieceOf a_numberOf a_ups a_jointUp a_partner a_beyonds a_gone thrown made tree items one two pieces joints nodes x1 x3 _ sz) h rfl rfl rfl rfl rfl rfl (Nat.le_of_ble_eq_true rfl) ⟨Nat.zero_le _, Nat.zero_le _⟩ (q0 := 0) rfl rfl (fun r_2 h => ?_)
    refine A_if_eq K d_Model_isBetween 9 22 (pc' := 18) rfl rfl rfl (fun q => ?_) (fun q => ?_)
    · replace h := h.1 q
      refine A_iconst K d_Model_isBetween 12 (pc' := 23) (v := 0) rfl rfl (by decide) ?_
      exact hend 13 _ _ _ rfl (Or.inl rfl) h
    · replace h := h.2 q
      refine A_iconst K d_Model_isBetween 10 (pc' := 19) (v := 1) rfl rfl (by decide) ?_
      refine A_goto K d_Model_isBetween 11 (pc' := 23) rfl rfl ?_
      exact hend 13 _ _ _ rfl (Or.inr rfl) h
theorem met_Model_isBetween (l : Launch) (D : va_G) (cI cJ cZ : ClassId) (a_t a_ends a_there a_one a_two a_what a_piece a_kinds a_group a_many a_pieceOf a_numberOf a_ups a_jointUp a_partner a_beyonds a_gone : Nat) (thrown : Int32) (made : Int32) (tree : Int32) (items : Int32) (one : Nat → Int32) (two : Nat → Int32) (pieces : Int32) (joints : Int32) (nodes : Int32) (x1 : Int32) (x2 : Int32) (x3 : Int32) (post : Int32 → Prop) (sz : Nat) : Met l y_Model_isBetween (Cond.code y_Model_isBetween c_Model_isBetween 4 (Option.some Jvm.ClassFile.FieldType.boolean) :: GW) { frames := 1, cells := 0, slots := 0, locals := 22 } (va_Pc [.ref a_t, .int x1, .int x2, .int x3] (fun U => sk_P D (tyl cI cJ cZ) (w_Model_isBetween cI cJ cZ a_t a_ends a_there a_one a_two a_what a_piece a_kinds a_group a_many a_pieceOf a_numberOf a_ups a_jointUp a_partner a_beyonds a_gone thrown made tree items one two pieces joints nodes) sz U ∧ wp_Model_isBetween one two x1 x2 x3 post)) (va_Qi (fun (r : Int32) (_ : Unit) => post r) (fun _ t => sk_B D (tyl cI cJ cZ) (w_Model_isBetween cI cJ cZ a_t a_ends a_there a_one a_two a_what a_piece a_kinds a_group a_many a_pieceOf a_numberOf a_ups a_jointUp a_partner a_beyonds a_gone thrown made tree items one two pieces joints nodes) (fun _ => True) t) (fun q => sz ≤ q)) 0 0 (fun q => sz ≤ q) :=
  sk_introR (by decide) (Nat.le_of_ble_eq_true rfl) (fun p e s m below meth c K hr _ h => bd_Model_isBetween K (Nat.le_refl _) (Nat.le_refl _) (fun ti pc r  lv hd hb hp => A_zret K d_Model_isBetween ti hr (post := (fun (r : Int32) (_ : Unit) => post r)) (wl := fun (_ : Unit) => w_Model_isBetween cI cJ cZ a_t a_ends a_there a_one a_two a_what a_piece a_kinds a_group a_many a_pieceOf a_numberOf a_ups a_jointUp a_partner a_beyonds a_gone thrown made tree items one two pieces joints nodes) () hd hb hp) h)
/-! SkeletonTreeModel.groupOf(III)I -/
def t_Model_groupOf : List (Nat × Instr × Nat) := [(0, .aload_n 0, 1), (1, .iload_n 1, 1), (2, .iload_n 2, 1), (3, .iload_n 3, 1), (4, .invokevirtual 105, 3), (7, .ifCond .eq 5, 3), (10, .iconst (-1), 1), (11, .ireturn, 1), (12, .aload_n 0, 1), (13, .getfield 32, 3), (16, .aload_n 0, 1), (17, .iload_n 1, 1), (18, .iload_n 2, 1), (19, .invokevirtual 101, 3), (22, .ifCond .ne 12, 3), (25, .aload_n 0, 1), (26, .iload_n 1, 1), (27, .iload_n 3, 1), (28, .invokevirtual 101, 3), (31, .ifCond .eq 41, 3), (34, .aload_n 0, 1), (35, .getfield 17, 3), (38, .iload_n 1, 1), (39, .iaload, 1), (40, .iload_n 2, 1), (41, .if_icmp .eq 13, 3), (44, .aload_n 0, 1), (45, .getfield 17, 3), (48, .iload_n 1, 1), (49, .iaload, 1), (50, .iload_n 3, 1), (51, .if_icmp .ne 12, 3), (54, .aload_n 0, 1), (55, .getfield 20, 3), (58, .iload_n 1, 1), (59, .iaload, 1), (60, .goto 18, 3), (63, .aload_n 0, 1), (64, .getfield 17, 3), (67, .iload_n 1, 1), (68, .iaload, 1), (69, .goto 9, 3), (72, .aload_n 0, 1), (73, .getfield 17, 3), (76, .iload_n 1, 1), (77, .iaload, 1), (78, .iaload, 1), (79, .ireturn, 1)]
set_option maxRecDepth 100000 in
theorem d_Model_groupOf : sk_T c_Model_groupOf t_Model_groupOf := by unfold sk_T t_Model_groupOf; decide +kernel
def w_Model_groupOf (cI cJ cZ : ClassId) (a_t a_ends a_there a_one a_two a_what a_piece a_kinds a_group a_many a_pieceOf a_numberOf a_ups a_jointUp a_partner a_beyonds a_gone : Nat) (thrown : Int32) (made : Int32) (tree : Int32) (items : Int32) (one : Nat → Int32) (two : Nat → Int32) (pieces : Int32) (joints : Int32) (group : Nat → Int32) (nodes : Int32) : va_W := [(a_t, .inr (5, [.int thrown, .int made, .ref a_ends, .ref a_there, .int tree, .int items, .ref a_one, .ref a_two, .ref a_what, .ref a_piece, .int pieces, .int joints, .ref a_kinds, .ref a_group, .ref a_many, .int nodes, .ref a_pieceOf, .ref a_numberOf, .ref a_ups, .ref a_jointUp, .ref a_partner, .ref a_beyonds, .ref a_gone])), (a_one, .inl (cI, 320, .inl one)), (a_two, .inl (cI, 320, .inl two)), (a_group, .inl (cI, 40, .inl group))]
def wp_Model_groupOf  (one : Nat → Int32) (two : Nat → Int32) (group : Nat → Int32) (x1 : Int32) (x2 : Int32) (x3 : Int32) (post : Int32 → Prop) : Prop :=
  wp_Model_isBetween one two x1 x2 x3 (fun r_1 => (r_1 = 0 → wp_Model_touches one two x1 x2 (fun r_2 => (¬ r_2 = 0 → vp_in x1 320 ∧ ((one (ix x1)) = x2 → vp_in x1 320 ∧ vp_in (two (ix x1)) 40 ∧ post (group (ix (two (ix x1)))) ) ∧ (¬ (one (ix x1)) = x2 → vp_in x1 320 ∧ (¬ (one (ix x1)) = x3 → vp_in x1 320 ∧ vp_in (one (ix x1)) 40 ∧ post (group (ix (one (ix x1)))) ) ∧ ((one (ix x1)) = x3 → vp_in x1 320 ∧ vp_in (two (ix x1)) 40 ∧ post (group (ix (two (ix x1)))) ))) ∧ (r_2 = 0 → wp_Model_touches one two x1 x3 (fun r_3 => (r_3 = 0 → vp_in x1 320 ∧ vp_in (one (ix x1)) 40 ∧ post (group (ix (one (ix x1)))) ) ∧ (¬ r_3 = 0 → vp_in x1 320 ∧ ((one (ix x1)) = x2 → vp_in x1 320 ∧ vp_in (two (ix x1)) 40 ∧ post (group (ix (two (ix x1)))) ) ∧ (¬ (one (ix x1)) = x2 → vp_in x1 320 ∧ (¬ (one (ix x1)) = x3 → vp_in x1 320 ∧ vp_in (one (ix x1)) 40 ∧ post (group (ix (one (ix x1)))) ) ∧ ((one (ix x1)) = x3 → vp_in x1 320 ∧ vp_in (two (ix x1)) 40 ∧ post (group (ix (two (ix x1)))) ))))))) ∧ (¬ r_1 = 0 → post (-1) ))
set_option maxHeartbeats 4000000 in
set_option maxRecDepth 100000 in
theorem bd_Model_groupOf {p : Program} {l : Launch} {e : Env} {R : Room} {s : State} {m : MethodId} {args : Array Value} {below : List Frame} {meth : Method} {c : Code} {D : va_G} {A B : Nat → Prop} {Q : State → Prop} {cI cJ cZ : ClassId} {a_t a_ends a_there a_one a_two a_what a_piece a_kinds a_group a_many a_pieceOf a_numberOf a_ups a_jointUp a_partner a_beyonds a_gone : Nat} {thrown : Int32} {made : Int32} {tree : Int32} {items : Int32} {one : Nat → Int32} {two : Nat → Int32} {pieces : Int32} {joints : Int32} {group : Nat → Int32} {nodes : Int32} {x1 : Int32} {x2 : Int32} {x3 : Int32} (K : sk_C p s m args meth c c_Model_groupOf 4 "SkeletonTreeModel" D (tyl cI cJ cZ)) (hR1 : 2 ≤ R.frames) (hR2 : 45 ≤ R.locals) {post : Int32 → Prop} (hend : ∀ (ti pc : Nat) (r : Int32)  (lv : List (Nat × Value)), t_Model_groupOf[ti]? = some (pc, .ireturn, 1) → post r  → AW p l e R s m args below meth c D A B 4 Q 0 0 (w_Model_groupOf cI cJ cZ a_t a_ends a_there a_one a_two a_what a_piece a_kinds a_group a_many a_pieceOf a_numberOf a_ups a_jointUp a_partner a_beyonds a_gone thrown made tree items one two pieces joints group nodes) lv pc [.int r]) (h : wp_Model_groupOf one two group x1 x2 x3 post) : AW p l e R s m args below meth c D A B 4 Q 0 0 (w_Model_groupOf cI cJ cZ a_t a_ends a_there a_one a_two a_what a_piece a_kinds a_group a_many a_pieceOf a_numberOf a_ups a_jointUp a_partner a_beyonds a_gone thrown made tree items one two pieces joints group nodes) [(0, .ref a_t), (1, .int x1), (2, .int x2), (3, .int x3)] 0 [] := by
  unfold wp_Model_groupOf at h
  refine A_aload_n K d_Model_groupOf 0 0 (pc' := 1) rfl rfl rfl rfl ?_
  refine A_iload_n K d_Model_groupOf 1 1 (pc' := 2) rfl rfl rfl rfl ?_
  refine A_iload_n K d_Model_groupOf 2 2 (pc' := 3) rfl rfl rfl rfl ?_
  refine A_iload_n K d_Model_groupOf 3 3 (pc' := 4) rfl rfl rfl rfl ?_
  refine R_callV_i K d_Model_groupOf 4 [0, 1, 2] (As := [.int x1, .int x2, .int x3]) (rest := []) (pc' := 7) v_Model_105 ⟨rfl, rfl, Nat.le_trans (Nat.le_of_ble_eq_true rfl) hR1, Nat.le_trans (Nat.le_of_ble_eq_true rfl) hR2⟩ (fun sz => met_Model_isBetween l D cI cJ cZ a_t a_ends a_there a_one a_two a_what a_piece a_kinds a_group a_many a_pieceOf a_numberOf a_ups a_jointUp a_partner a_beyonds a_gone thrown made tree items one two pieces joints nodes x1 x2 x3 _ sz) h rfl rfl rfl rfl rfl rfl (Nat.le_of_ble_eq_true rfl) ⟨Nat.zero_le _, Nat.zero_le _⟩ (q0 := 0) rfl rfl (fun r_1 h => ?_)
  refine A_if_eq K d_Model_groupOf 5 12 (pc' := 10) rfl rfl rfl (fun q => ?_) (fun q => ?_)
  · replace h := h.1 q
    refine A_aload_n K d_Model_groupOf 8 0 (pc' := 13) rfl rfl rfl rfl ?_
    refine A_get K d_Model_groupOf 9 0 fl_Model_32 (pc' := 16) rfl rfl rfl rfl ?_
    refine A_aload_n K d_Model_groupOf 10 0 (pc' := 17) rfl rfl rfl rfl ?_
    refine A_iload_n K d_Model_groupOf 11 1 (pc' := 18) rfl rfl rfl rfl ?_
    refine A_iload_n K d_Model_groupOf 12 2 (pc' := 19) rfl rfl rfl rfl ?_
    refine R_callV_i K d_Model_groupOf 13 [0, 1, 2] (As := [.int x1, .int x2]) (rest := [.ref a_group]) (pc' := 22) v_Model_101 ⟨rfl, rfl, Nat.le_trans (Nat.le_of_ble_eq_true rfl) hR1, Nat.le_trans (Nat.le_of_ble_eq_true rfl) hR2⟩ (fun sz => met_Model_touches l D cI cJ cZ a_t a_ends a_there a_one a_two a_what a_piece a_kinds a_group a_many a_pieceOf a_numberOf a_ups a_jointUp a_partner a_beyonds a_gone thrown made tree items one two pieces joints nodes x1 x2 _ sz) h rfl rfl rfl rfl rfl rfl (Nat.le_of_ble_eq_true rfl) ⟨Nat.zero_le _, Nat.zero_le _⟩ (q0 := 0) rfl rfl (fun r_2 h => ?_)
    refine A_if_ne K d_Model_groupOf 14 34 (pc' := 25) rfl rfl rfl (fun q => ?_) (fun q => ?_)
    · replace h := h.1 q
      refine A_aload_n K d_Model_groupOf 20 0 (pc' := 35) rfl rfl rfl rfl ?_
      refine A_get K d_Model_groupOf 21 0 fl_Model_17 (pc' := 38) rfl rfl rfl rfl ?_
      refine A_iload_n K d_Model_groupOf 22 1 (pc' := 39) rfl rfl rfl rfl ?_
      refine A_iald K d_Model_groupOf 23 1 0 (pc' := 40) rfl rfl rfl rfl h.1 ?_
      replace h := h.2
      refine A_iload_n K d_Model_groupOf 24 2 (pc' := 41) rfl rfl rfl rfl ?_
      refine A_icmp_eq K d_Model_groupOf 25 54 (pc' := 44) rfl rfl rfl (fun q => ?_) (fun q => ?_)
      · replace h := h.1 q
        refine A_aload_n K d_Model_groupOf 32 0 (pc' := 55) rfl rfl rfl rfl ?_
        refine A_get K d_Model_groupOf 33 0 fl_Model_20 (pc' := 58) rfl rfl rfl rfl ?_
        refine A_iload_n K d_Model_groupOf 34 1 (pc' := 59) rfl rfl rfl rfl ?_
        refine A_iald K d_Model_groupOf 35 2 0 (pc' := 60) rfl rfl rfl rfl h.1 ?_
        replace h := h.2
        refine A_goto K d_Model_groupOf 36 (pc' := 78) rfl rfl ?_
        refine A_iald K d_Model_groupOf 46 3 0 (pc' := 79) rfl rfl rfl rfl h.1 ?_
        replace h := h.2
        exact hend 47 _ _ _ rfl h
      · replace h := h.2 q
        refine A_aload_n K d_Model_groupOf 26 0 (pc' := 45) rfl rfl rfl rfl ?_
        refine A_get K d_Model_groupOf 27 0 fl_Model_17 (pc' := 48) rfl rfl rfl rfl ?_
        refine A_iload_n K d_Model_groupOf 28 1 (pc' := 49) rfl rfl rfl rfl ?_
        refine A_iald K d_Model_groupOf 29 1 0 (pc' := 50) rfl rfl rfl rfl h.1 ?_
        replace h := h.2
        refine A_iload_n K d_Model_groupOf 30 3 (pc' := 51) rfl rfl rfl rfl ?_
        refine A_icmp_ne K d_Model_groupOf 31 63 (pc' := 54) rfl rfl rfl (fun q => ?_) (fun q => ?_)
        · replace h := h.1 q
          refine A_aload_n K d_Model_groupOf 37 0 (pc' := 64) rfl rfl rfl rfl ?_
          refine A_get K d_Model_groupOf 38 0 fl_Model_17 (pc' := 67) rfl rfl rfl rfl ?_
          refine A_iload_n K d_Model_groupOf 39 1 (pc' := 68) rfl rfl rfl rfl ?_
          refine A_iald K d_Model_groupOf 40 1 0 (pc' := 69) rfl rfl rfl rfl h.1 ?_
          replace h := h.2
          refine A_goto K d_Model_groupOf 41 (pc' := 78) rfl rfl ?_
          refine A_iald K d_Model_groupOf 46 3 0 (pc' := 79) rfl rfl rfl rfl h.1 ?_
          replace h := h.2
          exact hend 47 _ _ _ rfl h
        · replace h := h.2 q
          refine A_aload_n K d_Model_groupOf 32 0 (pc' := 55) rfl rfl rfl rfl ?_
          refine A_get K d_Model_groupOf 33 0 fl_Model_20 (pc' := 58) rfl rfl rfl rfl ?_
          refine A_iload_n K d_Model_groupOf 34 1 (pc' := 59) rfl rfl rfl rfl ?_
          refine A_iald K d_Model_groupOf 35 2 0 (pc' := 60) rfl rfl rfl rfl h.1 ?_
          replace h := h.2
          refine A_goto K d_Model_groupOf 36 (pc' := 78) rfl rfl ?_
          refine A_iald K d_Model_groupOf 46 3 0 (pc' := 79) rfl rfl rfl rfl h.1 ?_
          replace h := h.2
          exact hend 47 _ _ _ rfl h
    · replace h := h.2 q
      refine A_aload_n K d_Model_groupOf 15 0 (pc' := 26) rfl rfl rfl rfl ?_
      refine A_iload_n K d_Model_groupOf 16 1 (pc' := 27) rfl rfl rfl rfl ?_
      refine A_iload_n K d_Model_groupOf 17 3 (pc' := 28) rfl rfl rfl rfl ?_
      refine R_callV_i K d_Model_groupOf 18 [0, 1, 2] (As := [.int x1, .int x3]) (rest := [.ref a_group]) (pc' := 31) v_Model_101 ⟨rfl, rfl, Nat.le_trans (Nat.le_of_ble_eq_true rfl) hR1, Nat.le_trans (Nat.le_of_ble_eq_true rfl) hR2⟩ (fun sz => met_Model_touches l D cI cJ cZ a_t a_ends a_there a_one a_two a_what a_piece a_kinds a_group a_many a_pieceOf a_numberOf a_ups a_jointUp a_partner a_beyonds a_gone thrown made tree items one two pieces joints nodes x1 x3 _ sz) h rfl rfl rfl rfl rfl rfl (Nat.le_of_ble_eq_true rfl) ⟨Nat.zero_le _, Nat.zero_le _⟩ (q0 := 0) rfl rfl (fun r_3 h => ?_)
      refine A_if_eq K d_Model_groupOf 19 72 (pc' := 34) rfl rfl rfl (fun q => ?_) (fun q => ?_)
      · replace h := h.1 q
        refine A_aload_n K d_Model_groupOf 42 0 (pc' := 73) rfl rfl rfl rfl ?_
        refine A_get K d_Model_groupOf 43 0 fl_Model_17 (pc' := 76) rfl rfl rfl rfl ?_
        refine A_iload_n K d_Model_groupOf 44 1 (pc' := 77) rfl rfl rfl rfl ?_
        refine A_iald K d_Model_groupOf 45 1 0 (pc' := 78) rfl rfl rfl rfl h.1 ?_
        replace h := h.2
        refine A_iald K d_Model_groupOf 46 3 0 (pc' := 79) rfl rfl rfl rfl h.1 ?_
        replace h := h.2
        exact hend 47 _ _ _ rfl h
      · replace h := h.2 q
        refine A_aload_n K d_Model_groupOf 20 0 (pc' := 35) rfl rfl rfl rfl ?_
        refine A_get K d_Model_groupOf 21 0 fl_Model_17 (pc' := 38) rfl rfl rfl rfl ?_
        refine A_iload_n K d_Model_groupOf 22 1 (pc' := 39) rfl rfl rfl rfl ?_
        refine A_iald K d_Model_groupOf 23 1 0 (pc' := 40) rfl rfl rfl rfl h.1 ?_
        replace h := h.2
        refine A_iload_n K d_Model_groupOf 24 2 (pc' := 41) rfl rfl rfl rfl ?_
        refine A_icmp_eq K d_Model_groupOf 25 54 (pc' := 44) rfl rfl rfl (fun q => ?_) (fun q => ?_)
        · replace h := h.1 q
          refine A_aload_n K d_Model_groupOf 32 0 (pc' := 55) rfl rfl rfl rfl ?_
          refine A_get K d_Model_groupOf 33 0 fl_Model_20 (pc' := 58) rfl rfl rfl rfl ?_
          refine A_iload_n K d_Model_groupOf 34 1 (pc' := 59) rfl rfl rfl rfl ?_
          refine A_iald K d_Model_groupOf 35 2 0 (pc' := 60) rfl rfl rfl rfl h.1 ?_
          replace h := h.2
          refine A_goto K d_Model_groupOf 36 (pc' := 78) rfl rfl ?_
          refine A_iald K d_Model_groupOf 46 3 0 (pc' := 79) rfl rfl rfl rfl h.1 ?_
          replace h := h.2
          exact hend 47 _ _ _ rfl h
        · replace h := h.2 q
          refine A_aload_n K d_Model_groupOf 26 0 (pc' := 45) rfl rfl rfl rfl ?_
          refine A_get K d_Model_groupOf 27 0 fl_Model_17 (pc' := 48) rfl rfl rfl rfl ?_
          refine A_iload_n K d_Model_groupOf 28 1 (pc' := 49) rfl rfl rfl rfl ?_
          refine A_iald K d_Model_groupOf 29 1 0 (pc' := 50) rfl rfl rfl rfl h.1 ?_
          replace h := h.2
          refine A_iload_n K d_Model_groupOf 30 3 (pc' := 51) rfl rfl rfl rfl ?_
          refine A_icmp_ne K d_Model_groupOf 31 63 (pc' := 54) rfl rfl rfl (fun q => ?_) (fun q => ?_)
          · replace h := h.1 q
            refine A_aload_n K d_Model_groupOf 37 0 (pc' := 64) rfl rfl rfl rfl ?_
            refine A_get K d_Model_groupOf 38 0 fl_Model_17 (pc' := 67) rfl rfl rfl rfl ?_
            refine A_iload_n K d_Model_groupOf 39 1 (pc' := 68) rfl rfl rfl rfl ?_
            refine A_iald K d_Model_groupOf 40 1 0 (pc' := 69) rfl rfl rfl rfl h.1 ?_
            replace h := h.2
            refine A_goto K d_Model_groupOf 41 (pc' := 78) rfl rfl ?_
            refine A_iald K d_Model_groupOf 46 3 0 (pc' := 79) rfl rfl rfl rfl h.1 ?_
            replace h := h.2
            exact hend 47 _ _ _ rfl h
          · replace h := h.2 q
            refine A_aload_n K d_Model_groupOf 32 0 (pc' := 55) rfl rfl rfl rfl ?_
            refine A_get K d_Model_groupOf 33 0 fl_Model_20 (pc' := 58) rfl rfl rfl rfl ?_
            refine A_iload_n K d_Model_groupOf 34 1 (pc' := 59) rfl rfl rfl rfl ?_
            refine A_iald K d_Model_groupOf 35 2 0 (pc' := 60) rfl rfl rfl rfl h.1 ?_
            replace h := h.2
            refine A_goto K d_Model_groupOf 36 (pc' := 78) rfl rfl ?_
            refine A_iald K d_Model_groupOf 46 3 0 (pc' := 79) rfl rfl rfl rfl h.1 ?_
            replace h := h.2
            exact hend 47 _ _ _ rfl h
  · replace h := h.2 q
    refine A_iconst K d_Model_groupOf 6 (pc' := 11) (v := (-1)) rfl rfl (by decide) ?_
    exact hend 7 _ _ _ rfl h
theorem met_Model_groupOf (l : Launch) (D : va_G) (cI cJ cZ : ClassId) (a_t a_ends a_there a_one a_two a_what a_piece a_kinds a_group a_many a_pieceOf a_numberOf a_ups a_jointUp a_partner a_beyonds a_gone : Nat) (thrown : Int32) (made : Int32) (tree : Int32) (items : Int32) (one : Nat → Int32) (two : Nat → Int32) (pieces : Int32) (joints : Int32) (group : Nat → Int32) (nodes : Int32) (x1 : Int32) (x2 : Int32) (x3 : Int32) (post : Int32 → Prop) (sz : Nat) : Met l y_Model_groupOf (Cond.code y_Model_groupOf c_Model_groupOf 4 (Option.some Jvm.ClassFile.FieldType.int) :: GW) { frames := 2, cells := 0, slots := 0, locals := 45 } (va_Pc [.ref a_t, .int x1, .int x2, .int x3] (fun U => sk_P D (tyl cI cJ cZ) (w_Model_groupOf cI cJ cZ a_t a_ends a_there a_one a_two a_what a_piece a_kinds a_group a_many a_pieceOf a_numberOf a_ups a_jointUp a_partner a_beyonds a_gone thrown made tree items one two pieces joints group nodes) sz U ∧ wp_Model_groupOf one two group x1 x2 x3 post)) (va_Qi (fun (r : Int32) (_ : Unit) => post r) (fun _ t => sk_B D (tyl cI cJ cZ) (w_Model_groupOf cI cJ cZ a_t a_ends a_there a_one a_two a_what a_piece a_kinds a_group a_many a_pieceOf a_numberOf a_ups a_jointUp a_partner a_beyonds a_gone thrown made tree items one two pieces joints group nodes) (fun _ => True) t) (fun q => sz ≤ q)) 0 0 (fun q => sz ≤ q) :=
  sk_introR (by decide) (Nat.le_of_ble_eq_true rfl) (fun p e s m below meth c K hr _ h => bd_Model_groupOf K (Nat.le_refl _) (Nat.le_refl _) (fun ti pc r  lv hd hp => A_iret K d_Model_groupOf ti hr (post := (fun (r : Int32) (_ : Unit) => post r)) (wl := fun (_ : Unit) => w_Model_groupOf cI cJ cZ a_t a_ends a_there a_one a_two a_what a_piece a_kinds a_group a_many a_pieceOf a_numberOf a_ups a_jointUp a_partner a_beyonds a_gone thrown made tree items one two pieces joints group nodes) () hd hp) h)
/-! SkeletonTreeModel.look(III)I -/
def t_Model_look : List (Nat × Instr × Nat) := [(0, .iconst 0, 1), (1, .istore 4, 2), (3, .iload 4, 2), (5, .bipush 40, 2), (7, .if_icmp .ge 26, 3), (10, .aload_n 0, 1), (11, .getfield 32, 3), (14, .iload 4, 2), (16, .iload 4, 2), (18, .iastore, 1), (19, .aload_n 0, 1), (20, .getfield 35, 3), (23, .iload 4, 2), (25, .iconst 0, 1), (26, .iastore, 1), (27, .iinc 4 1, 3), (30, .goto (-27), 3), (33, .iconst 0, 1), (34, .istore 4, 2), (36, .iload 4, 2), (38, .aload_n 0, 1), (39, .getfield 98, 3), (42, .if_icmp .ge 58, 3), (45, .aload_n 0, 1), (46, .getfield 26, 3), (49, .iload 4, 2), (51, .iaload, 1), (52, .iload_n 1, 1), (53, .if_icmp .ne 41, 3), (56, .aload_n 0, 1), (57, .iload 4, 2), (59, .iload_n 2, 1), (60, .invokevirtual 101, 3), (63, .ifCond .ne 31, 3), (66, .aload_n 0, 1), (67, .iload 4, 2), (69, .iload_n 3, 1), (70, .invokevirtual 101, 3), (73, .ifCond .ne 21, 3), (76, .aload_n 0, 1), (77, .aload_n 0, 1), (78, .getfield 17, 3), (81, .iload 4, 2), (83, .iaload, 1), (84, .aload_n 0, 1), (85, .getfield 20, 3), (88, .iload 4, 2), (90, .iaload, 1), (91, .invokevirtual 81, 3), (94, .iinc 4 1, 3), (97, .goto (-61), 3), (100, .iconst 0, 1), (101, .istore 4, 2), (103, .iconst 0, 1), (104, .istore 5, 2), (106, .iload 5, 2), (108, .aload_n 0, 1), (109, .getfield 98, 3), (112, .if_icmp .ge 62, 3), (115, .aload_n 0, 1), (116, .getfield 26, 3), (119, .iload 5, 2), (121, .iaload, 1), (122, .iload_n 1, 1), (123, .if_icmp .ne 45, 3), (126, .aload_n 0, 1), (127, .iload 5, 2), (129, .iload_n 2, 1), (130, .iload_n 3, 1), (131, .invokevirtual 109, 3), (134, .istore 6, 2), (136, .iload 6, 2), (138, .ifCond .ge 10, 3), (141, .iload 4, 2), (143, .iconst 1, 1), (144, .iadd, 1), (145, .goto 5, 3), (148, .iload 4, 2), (150, .istore 4, 2), (152, .iload 6, 2), (154, .ifCond .lt 14, 3), (157, .aload_n 0, 1), (158, .getfield 35, 3), (161, .iload 6, 2), (163, .dup2, 1), (164, .iaload, 1), (165, .iconst 1, 1), (166, .iadd, 1), (167, .iastore, 1), (168, .iinc 5 1, 3), (171, .goto (-65), 3), (174, .iload 4, 2), (176, .ireturn, 1)]
set_option maxRecDepth 100000 in
theorem d_Model_look : sk_T c_Model_look t_Model_look := by unfold sk_T t_Model_look; decide +kernel
def w_Model_look (cI cJ cZ : ClassId) (a_t a_ends a_there a_one a_two a_what a_piece a_kinds a_group a_many a_pieceOf a_numberOf a_ups a_jointUp a_partner a_beyonds a_gone : Nat) (thrown : Int32) (made : Int32) (tree : Int32) (items : Int32) (one : Nat → Int32) (two : Nat → Int32) (piece : Nat → Int32) (pieces : Int32) (joints : Int32) (group : Nat → Int32) (many : Nat → Int32) (nodes : Int32) : va_W := [(a_t, .inr (5, [.int thrown, .int made, .ref a_ends, .ref a_there, .int tree, .int items, .ref a_one, .ref a_two, .ref a_what, .ref a_piece, .int pieces, .int joints, .ref a_kinds, .ref a_group, .ref a_many, .int nodes, .ref a_pieceOf, .ref a_numberOf, .ref a_ups, .ref a_jointUp, .ref a_partner, .ref a_beyonds, .ref a_gone])), (a_one, .inl (cI, 320, .inl one)), (a_two, .inl (cI, 320, .inl two)), (a_piece, .inl (cI, 320, .inl piece)), (a_group, .inl (cI, 40, .inl group)), (a_many, .inl (cI, 40, .inl many))]
def wp_Model_look  (items : Int32) (one : Nat → Int32) (two : Nat → Int32) (piece : Nat → Int32) (group : Nat → Int32) (many : Nat → Int32) (x1 : Int32) (x2 : Int32) (x3 : Int32) (post : Int32 → (Nat → Int32) → (Nat → Int32) → Prop) : Prop :=
  ∃ n, sL3 (fun (K_4 : Int32 → (Nat → Int32) → (Nat → Int32) → Prop) (i4_1 : Int32) (group_2 : Nat → Int32) (many_3 : Nat → Int32) => (40 ≤ i4_1 → ∃ n, sL2 (fun (K_9 : Int32 → (Nat → Int32) → Prop) (i4_7 : Int32) (group_8 : Nat → Int32) => (items ≤ i4_7 → ∃ n, sL3 (fun (K_15 : Int32 → Int32 → (Nat → Int32) → Prop) (i4_12 : Int32) (i5_13 : Int32) (many_14 : Nat → Int32) => (items ≤ i5_13 → post i4_12 group_8 many_14) ∧ (¬ items ≤ i5_13 → vp_in i5_13 320 ∧ (¬ (piece (ix i5_13)) = x1 → K_15 i4_12 (i5_13 + 1) many_14) ∧ ((piece (ix i5_13)) = x1 → wp_Model_groupOf one two group_8 i5_13 x2 x3 (fun r_18 => jn1 (fun (z_19 : Int32) => (r_18 < 0 → K_15 z_19 (i5_13 + 1) many_14) ∧ (¬ r_18 < 0 → vp_in r_18 40 ∧ vp_in r_18 40 ∧ ∀ many_22 : Nat → Int32, many_22 = upd many_14 (ix r_18) ((many_14 (ix r_18)) + 1) → K_15 z_19 (i5_13 + 1) many_22)) (fun (J_20 : Int32 → Prop) => (0 ≤ r_18 → J_20 i4_12) ∧ (¬ 0 ≤ r_18 → J_20 (i4_12 + 1))))))) n 0 0 many_3) ∧ (¬ items ≤ i4_7 → vp_in i4_7 320 ∧ (¬ (piece (ix i4_7)) = x1 → K_9 (i4_7 + 1) group_8) ∧ ((piece (ix i4_7)) = x1 → wp_Model_touches one two i4_7 x2 (fun r_24 => (¬ r_24 = 0 → K_9 (i4_7 + 1) group_8) ∧ (r_24 = 0 → wp_Model_touches one two i4_7 x3 (fun r_25 => (¬ r_25 = 0 → K_9 (i4_7 + 1) group_8) ∧ (r_25 = 0 → vp_in i4_7 320 ∧ vp_in i4_7 320 ∧ wp_Model_same group_8 (one (ix i4_7)) (two (ix i4_7)) (fun group_26 => K_9 (i4_7 + 1) group_26)))))))) n 0 group_2) ∧ (¬ 40 ≤ i4_1 → vp_in i4_1 40 ∧ ∀ group_27 : Nat → Int32, group_27 = upd group_2 (ix i4_1) i4_1 → vp_in i4_1 40 ∧ ∀ many_29 : Nat → Int32, many_29 = upd many_3 (ix i4_1) 0 → K_4 (i4_1 + 1) group_27 many_29)) n 0 group many
set_option maxHeartbeats 4000000 in
set_option maxRecDepth 100000 in
theorem bd_Model_look {p : Program} {l : Launch} {e : Env} {R : Room} {s : State} {m : MethodId} {args : Array Value} {below : List Frame} {meth : Method} {c : Code} {D : va_G} {A B : Nat → Prop} {Q : State → Prop} {cI cJ cZ : ClassId} {a_t a_ends a_there a_one a_two a_what a_piece a_kinds a_group a_many a_pieceOf a_numberOf a_ups a_jointUp a_partner a_beyonds a_gone : Nat} {thrown : Int32} {made : Int32} {tree : Int32} {items : Int32} {one : Nat → Int32} {two : Nat → Int32} {piece : Nat → Int32} {pieces : Int32} {joints : Int32} {group : Nat → Int32} {many : Nat → Int32} {nodes : Int32} {x1 : Int32} {x2 : Int32} {x3 : Int32} (K : sk_C p s m args meth c c_Model_look 7 "SkeletonTreeModel" D (tyl cI cJ cZ)) (hR1 : 3 ≤ R.frames) (hR2 : 68 ≤ R.locals) (hBA : ∀ q : Nat, B q → A q) {post : Int32 → (Nat → Int32) → (Nat → Int32) → Prop} (hend : ∀ (ti pc : Nat) (r : Int32) (y0 : Nat → Int32) (y1 : Nat → Int32) (lv : List (Nat × Value)), t_Model_look[ti]? = some (pc, .ireturn, 1) → post r y0 y1 → AW p l e R s m args below meth c D A B 7 Q 0 0 (w_Model_look cI cJ cZ a_t a_ends a_there a_one a_two a_what a_piece a_kinds a_group a_many a_pieceOf a_numberOf a_ups a_jointUp a_partner a_beyonds a_gone thrown made tree items one two piece pieces joints y0 y1 nodes) lv pc [.int r]) (h : wp_Model_look items one two piece group many x1 x2 x3 post) : AW p l e R s m args below meth c D A B 7 Q 0 0 (w_Model_look cI cJ cZ a_t a_ends a_there a_one a_two a_what a_piece a_kinds a_group a_many a_pieceOf a_numberOf a_ups a_jointUp a_partner a_beyonds a_gone thrown made tree items one two piece pieces joints group many nodes) [(0, .ref a_t), (1, .int x1), (2, .int x2), (3, .int x3)] 0 [] := by
  unfold wp_Model_look at h
  refine A_iconst K d_Model_look 0 (pc' := 1) (v := 0) rfl rfl (by decide) ?_
  refine A_istore K d_Model_look 1 (pc' := 3) (lv' := [(4, .int 0), (0, .ref a_t), (1, .int x1), (2, .int x2), (3, .int x3)]) rfl rfl (by decide) rfl ?_
  refine A_lv [1, 2, 3, 4, 0] rfl ?_
  obtain ⟨n_6, h⟩ := h
  refine sL3_ind (fun (i4_1 : Int32) (group_2 : Nat → Int32) (many_3 : Nat → Int32) => AW p l e R s m args below meth c D A B 7 Q 0 0 (w_Model_look cI cJ cZ a_t a_ends a_there a_one a_two a_what a_piece a_kinds a_group a_many a_pieceOf a_numberOf a_ups a_jointUp a_partner a_beyonds a_gone thrown made tree items one two piece pieces joints group_2 many_3 nodes) [(0, .ref a_t), (1, .int x1), (2, .int x2), (3, .int x3), (4, .int i4_1)] 3 []) ?_ n_6 _ _ _ h
  intro K_4 ih_5 i4_1 group_2 many_3 h
  refine A_iload K d_Model_look 2 4 (pc' := 5) rfl rfl rfl ?_
  refine A_bipush K d_Model_look 3 (pc' := 7) (v := 40) rfl rfl (by decide) ?_
  refine A_icmp_ge K d_Model_look 4 33 (pc' := 10) rfl rfl rfl (fun q => ?_) (fun q => ?_)
  · replace h := h.1 q
    refine A_iconst K d_Model_look 17 (pc' := 34) (v := 0) rfl rfl (by decide) ?_
    refine A_istore K d_Model_look 18 (pc' := 36) (lv' := [(4, .int 0), (0, .ref a_t), (1, .int x1), (2, .int x2), (3, .int x3)]) rfl rfl (by decide) rfl ?_
    refine A_lv [1, 2, 3, 4, 0] rfl ?_
    obtain ⟨n_11, h⟩ := h
    refine sL2_ind (fun (i4_7 : Int32) (group_8 : Nat → Int32) => AW p l e R s m args below meth c D A B 7 Q 0 0 (w_Model_look cI cJ cZ a_t a_ends a_there a_one a_two a_what a_piece a_kinds a_group a_many a_pieceOf a_numberOf a_ups a_jointUp a_partner a_beyonds a_gone thrown made tree items one two piece pieces joints group_8 many_3 nodes) [(0, .ref a_t), (1, .int x1), (2, .int x2), (3, .int x3), (4, .int i4_7)] 36 []) ?_ n_11 _ _ h
    intro K_9 ih_10 i4_7 group_8 h
    refine A_iload K d_Model_look 19 4 (pc' := 38) rfl rfl rfl ?_
    refine A_aload_n K d_Model_look 20 0 (pc' := 39) rfl rfl rfl rfl ?_
    refine A_get K d_Model_look 21 0 fl_Model_98 (pc' := 42) rfl rfl rfl rfl ?_
    refine A_icmp_ge K d_Model_look 22 100 (pc' := 45) rfl rfl rfl (fun q => ?_) (fun q => ?_)
    · replace h := h.1 q
      refine A_iconst K d_Model_look 51 (pc' := 101) (v := 0) rfl rfl (by decide) ?_
      refine A_istore K d_Model_look 52 (pc' := 103) (lv' := [(4, .int 0), (0, .ref a_t), (1, .int x1), (2, .int x2), (3, .int x3)]) rfl rfl (by decide) rfl ?_
      refine A_iconst K d_Model_look 53 (pc' := 104) (v := 0) rfl rfl (by decide) ?_
      refine A_istore K d_Model_look 54 (pc' := 106) (lv' := [(5, .int 0), (4, .int 0), (0, .ref a_t), (1, .int x1), (2, .int x2), (3, .int x3)]) rfl rfl (by decide) rfl ?_
      refine A_lv [2, 3, 4, 5, 1, 0] rfl ?_
      obtain ⟨n_17, h⟩ := h
      refine sL3_ind (fun (i4_12 : Int32) (i5_13 : Int32) (many_14 : Nat → Int32) => AW p l e R s m args below meth c D A B 7 Q 0 0 (w_Model_look cI cJ cZ a_t a_ends a_there a_one a_two a_what a_piece a_kinds a_group a_many a_pieceOf a_numberOf a_ups a_jointUp a_partner a_beyonds a_gone thrown made tree items one two piece pieces joints group_8 many_14 nodes) [(0, .ref a_t), (1, .int x1), (2, .int x2), (3, .int x3), (4, .int i4_12), (5, .int i5_13)] 106 []) ?_ n_17 _ _ _ h
      intro K_15 ih_16 i4_12 i5_13 many_14 h
      refine A_iload K d_Model_look 55 5 (pc' := 108) rfl rfl rfl ?_
      refine A_aload_n K d_Model_look 56 0 (pc' := 109) rfl rfl rfl rfl ?_
      refine A_get K d_Model_look 57 0 fl_Model_98 (pc' := 112) rfl rfl rfl rfl ?_
      refine A_icmp_ge K d_Model_look 58 174 (pc' := 115) rfl rfl rfl (fun q => ?_) (fun q => ?_)
      · replace h := h.1 q
        refine A_iload K d_Model_look 91 4 (pc' := 176) rfl rfl rfl ?_
        exact hend 92 _ _ _ _ _ rfl h
      · replace h := h.2 q
        refine A_aload_n K d_Model_look 59 0 (pc' := 116) rfl rfl rfl rfl ?_
        refine A_get K d_Model_look 60 0 fl_Model_26 (pc' := 119) rfl rfl rfl rfl ?_
        refine A_iload K d_Model_look 61 5 (pc' := 121) rfl rfl rfl ?_
        refine A_iald K d_Model_look 62 3 0 (pc' := 122) rfl rfl rfl rfl h.1 ?_
        replace h := h.2
        refine A_iload_n K d_Model_look 63 1 (pc' := 123) rfl rfl rfl rfl ?_
        refine A_icmp_ne K d_Model_look 64 168 (pc' := 126) rfl rfl rfl (fun q => ?_) (fun q => ?_)
        · replace h := h.1 q
          refine A_iinc K d_Model_look 89 5 (pc' := 171) (v := i5_13 + 1) (lv' := [(5, .int (i5_13 + 1)), (0, .ref a_t), (1, .int x1), (2, .int x2), (3, .int x3), (4, .int i4_12)]) rfl rfl rfl rfl (by decide) rfl ?_
          refine A_goto K d_Model_look 90 (pc' := 106) rfl rfl ?_
          refine A_lv [1, 2, 3, 4, 5, 0] rfl ?_
          exact ih_16 _ _ _ h
        · replace h := h.2 q
          refine A_aload_n K d_Model_look 65 0 (pc' := 127) rfl rfl rfl rfl ?_
          refine A_iload K d_Model_look 66 5 (pc' := 129) rfl rfl rfl ?_
          refine A_iload_n K d_Model_look 67 2 (pc' := 130) rfl rfl rfl rfl ?_
          refine A_iload_n K d_Model_look 68 3 (pc' := 131) rfl rfl rfl rfl ?_
          refine R_callV_i K d_Model_look 69 [0, 1, 2, 4] (As := [.int i5_13, .int x2, .int x3]) (rest := []) (pc' := 134) v_Model_109 ⟨rfl, rfl, Nat.le_trans (Nat.le_of_ble_eq_true rfl) hR1, Nat.le_trans (Nat.le_of_ble_eq_true rfl) hR2⟩ (fun sz => met_Model_groupOf l D cI cJ cZ a_t a_ends a_there a_one a_two a_what a_piece a_kinds a_group a_many a_pieceOf a_numberOf a_ups a_jointUp a_partner a_beyonds a_gone thrown made tree items one two pieces joints group_8 nodes i5_13 x2 x3 _ sz) h rfl rfl rfl rfl rfl rfl (Nat.le_of_ble_eq_true rfl) ⟨Nat.zero_le _, Nat.zero_le _⟩ (q0 := 0) rfl rfl (fun r_18 h => ?_)
          refine A_istore K d_Model_look 70 (pc' := 136) (lv' := [(6, .int r_18), (0, .ref a_t), (1, .int x1), (2, .int x2), (3, .int x3), (4, .int i4_12), (5, .int i5_13)]) rfl rfl (by decide) rfl ?_
          refine A_iload K d_Model_look 71 0 (pc' := 138) rfl rfl rfl ?_
          refine jn1_use (fun (z_19 : Int32) => AW p l e R s m args below meth c D A B 7 Q 0 0 (w_Model_look cI cJ cZ a_t a_ends a_there a_one a_two a_what a_piece a_kinds a_group a_many a_pieceOf a_numberOf a_ups a_jointUp a_partner a_beyonds a_gone thrown made tree items one two piece pieces joints group_8 many_14 nodes) [(0, .ref a_t), (1, .int x1), (2, .int x2), (3, .int x3), (5, .int i5_13), (6, .int r_18)] 150 [.int z_19]) h ?_ ?_
          · intro z_19 h
            refine A_istore K d_Model_look 78 (pc' := 152) (lv' := [(4, .int z_19), (0, .ref a_t), (1, .int x1), (2, .int x2), (3, .int x3), (5, .int i5_13), (6, .int r_18)]) rfl rfl (by decide) rfl ?_
            refine A_iload K d_Model_look 79 6 (pc' := 154) rfl rfl rfl ?_
            refine A_if_lt K d_Model_look 80 168 (pc' := 157) rfl rfl rfl (fun q => ?_) (fun q => ?_)
            · replace h := h.1 q
              refine A_iinc K d_Model_look 89 5 (pc' := 171) (v := i5_13 + 1) (lv' := [(5, .int (i5_13 + 1)), (4, .int z_19), (0, .ref a_t), (1, .int x1), (2, .int x2), (3, .int x3), (6, .int r_18)]) rfl rfl rfl rfl (by decide) rfl ?_
              refine A_goto K d_Model_look 90 (pc' := 106) rfl rfl ?_
              refine A_lv [2, 3, 4, 5, 1, 0] rfl ?_
              exact ih_16 _ _ _ h
            · replace h := h.2 q
              refine A_aload_n K d_Model_look 81 1 (pc' := 158) rfl rfl rfl rfl ?_
              refine A_get K d_Model_look 82 0 fl_Model_35 (pc' := 161) rfl rfl rfl rfl ?_
              refine A_iload K d_Model_look 83 6 (pc' := 163) rfl rfl rfl ?_
              refine A_dup2 K d_Model_look 84 (pc' := 164) rfl rfl rfl rfl ?_
              refine A_iald K d_Model_look 85 5 0 (pc' := 165) rfl rfl rfl rfl h.1 ?_
              replace h := h.2
              refine A_iconst K d_Model_look 86 (pc' := 166) (v := 1) rfl rfl (by decide) ?_
              refine A_iadd K d_Model_look 87 (pc' := 167) rfl rfl ?_
              refine A_iastN K hBA d_Model_look 88 5 0 (pc' := 168) (ws' := fun many_22 => w_Model_look cI cJ cZ a_t a_ends a_there a_one a_two a_what a_piece a_kinds a_group a_many a_pieceOf a_numberOf a_ups a_jointUp a_partner a_beyonds a_gone thrown made tree items one two piece pieces joints group_8 many_22 nodes) rfl rfl rfl rfl h.1 (fun _ => rfl) (fun many_22 e_23 => ?_)
              replace h := h.2 many_22 e_23
              refine A_iinc K d_Model_look 89 5 (pc' := 171) (v := i5_13 + 1) (lv' := [(5, .int (i5_13 + 1)), (4, .int z_19), (0, .ref a_t), (1, .int x1), (2, .int x2), (3, .int x3), (6, .int r_18)]) rfl rfl rfl rfl (by decide) rfl ?_
              refine A_goto K d_Model_look 90 (pc' := 106) rfl rfl ?_
              refine A_lv [2, 3, 4, 5, 1, 0] rfl ?_
              exact ih_16 _ _ _ h
          · intro J_20 hJ_21 h
            refine A_if_ge K d_Model_look 72 148 (pc' := 141) rfl rfl rfl (fun q => ?_) (fun q => ?_)
            · replace h := h.1 q
              refine A_iload K d_Model_look 77 5 (pc' := 150) rfl rfl rfl ?_
              refine A_lv [1, 2, 3, 4, 6, 0] rfl ?_
              exact hJ_21 _ h
            · replace h := h.2 q
              refine A_iload K d_Model_look 73 5 (pc' := 143) rfl rfl rfl ?_
              refine A_iconst K d_Model_look 74 (pc' := 144) (v := 1) rfl rfl (by decide) ?_
              refine A_iadd K d_Model_look 75 (pc' := 145) rfl rfl ?_
              refine A_goto K d_Model_look 76 (pc' := 150) rfl rfl ?_
              refine A_lv [1, 2, 3, 4, 6, 0] rfl ?_
              exact hJ_21 _ h
    · replace h := h.2 q
      refine A_aload_n K d_Model_look 23 0 (pc' := 46) rfl rfl rfl rfl ?_
      refine A_get K d_Model_look 24 0 fl_Model_26 (pc' := 49) rfl rfl rfl rfl ?_
      refine A_iload K d_Model_look 25 4 (pc' := 51) rfl rfl rfl ?_
      refine A_iald K d_Model_look 26 3 0 (pc' := 52) rfl rfl rfl rfl h.1 ?_
      replace h := h.2
      refine A_iload_n K d_Model_look 27 1 (pc' := 53) rfl rfl rfl rfl ?_
      refine A_icmp_ne K d_Model_look 28 94 (pc' := 56) rfl rfl rfl (fun q => ?_) (fun q => ?_)
      · replace h := h.1 q
        refine A_iinc K d_Model_look 49 4 (pc' := 97) (v := i4_7 + 1) (lv' := [(4, .int (i4_7 + 1)), (0, .ref a_t), (1, .int x1), (2, .int x2), (3, .int x3)]) rfl rfl rfl rfl (by decide) rfl ?_
        refine A_goto K d_Model_look 50 (pc' := 36) rfl rfl ?_
        refine A_lv [1, 2, 3, 4, 0] rfl ?_
        exact ih_10 _ _ h
      · replace h := h.2 q
        refine A_aload_n K d_Model_look 29 0 (pc' := 57) rfl rfl rfl rfl ?_
        refine A_iload K d_Model_look 30 4 (pc' := 59) rfl rfl rfl ?_
        refine A_iload_n K d_Model_look 31 2 (pc' := 60) rfl rfl rfl rfl ?_
        refine R_callV_i K d_Model_look 32 [0, 1, 2] (As := [.int i4_7, .int x2]) (rest := []) (pc' := 63) v_Model_101 ⟨rfl, rfl, Nat.le_trans (Nat.le_of_ble_eq_true rfl) hR1, Nat.le_trans (Nat.le_of_ble_eq_true rfl) hR2⟩ (fun sz => met_Model_touches l D cI cJ cZ a_t a_ends a_there a_one a_two a_what a_piece a_kinds a_group a_many a_pieceOf a_numberOf a_ups a_jointUp a_partner a_beyonds a_gone thrown made tree items one two pieces joints nodes i4_7 x2 _ sz) h rfl rfl rfl rfl rfl rfl (Nat.le_of_ble_eq_true rfl) ⟨Nat.zero_le _, Nat.zero_le _⟩ (q0 := 0) rfl rfl (fun r_24 h => ?_)
        refine A_if_ne K d_Model_look 33 94 (pc' := 66) rfl rfl rfl (fun q => ?_) (fun q => ?_)
        · replace h := h.1 q
          refine A_iinc K d_Model_look 49 4 (pc' := 97) (v := i4_7 + 1) (lv' := [(4, .int (i4_7 + 1)), (0, .ref a_t), (1, .int x1), (2, .int x2), (3, .int x3)]) rfl rfl rfl rfl (by decide) rfl ?_
          refine A_goto K d_Model_look 50 (pc' := 36) rfl rfl ?_
          refine A_lv [1, 2, 3, 4, 0] rfl ?_
          exact ih_10 _ _ h
        · replace h := h.2 q
          refine A_aload_n K d_Model_look 34 0 (pc' := 67) rfl rfl rfl rfl ?_
          refine A_iload K d_Model_look 35 4 (pc' := 69) rfl rfl rfl ?_
          refine A_iload_n K d_Model_look 36 3 (pc' := 70) rfl rfl rfl rfl ?_
          refine R_callV_i K d_Model_look 37 [0, 1, 2] (As := [.int i4_7, .int x3]) (rest := []) (pc' := 73) v_Model_101 ⟨rfl, rfl, Nat.le_trans (Nat.le_of_ble_eq_true rfl) hR1, Nat.le_trans (Nat.le_of_ble_eq_true rfl) hR2⟩ (fun sz => met_Model_touches l D cI cJ cZ a_t a_ends a_there a_one a_two a_what a_piece a_kinds a_group a_many a_pieceOf a_numberOf a_ups a_jointUp a_partner a_beyonds a_gone thrown made tree items one two pieces joints nodes i4_7 x3 _ sz) h rfl rfl rfl rfl rfl rfl (Nat.le_of_ble_eq_true rfl) ⟨Nat.zero_le _, Nat.zero_le _⟩ (q0 := 0) rfl rfl (fun r_25 h => ?_)
          refine A_if_ne K d_Model_look 38 94 (pc' := 76) rfl rfl rfl (fun q => ?_) (fun q => ?_)
          · replace h := h.1 q
            refine A_iinc K d_Model_look 49 4 (pc' := 97) (v := i4_7 + 1) (lv' := [(4, .int (i4_7 + 1)), (0, .ref a_t), (1, .int x1), (2, .int x2), (3, .int x3)]) rfl rfl rfl rfl (by decide) rfl ?_
            refine A_goto K d_Model_look 50 (pc' := 36) rfl rfl ?_
            refine A_lv [1, 2, 3, 4, 0] rfl ?_
            exact ih_10 _ _ h
          · replace h := h.2 q
            refine A_aload_n K d_Model_look 39 0 (pc' := 77) rfl rfl rfl rfl ?_
            refine A_aload_n K d_Model_look 40 0 (pc' := 78) rfl rfl rfl rfl ?_
            refine A_get K d_Model_look 41 0 fl_Model_17 (pc' := 81) rfl rfl rfl rfl ?_
            refine A_iload K d_Model_look 42 4 (pc' := 83) rfl rfl rfl ?_
            refine A_iald K d_Model_look 43 1 0 (pc' := 84) rfl rfl rfl rfl h.1 ?_
            replace h := h.2
            refine A_aload_n K d_Model_look 44 0 (pc' := 85) rfl rfl rfl rfl ?_
            refine A_get K d_Model_look 45 0 fl_Model_20 (pc' := 88) rfl rfl rfl rfl ?_
            refine A_iload K d_Model_look 46 4 (pc' := 90) rfl rfl rfl ?_
            refine A_iald K d_Model_look 47 2 0 (pc' := 91) rfl rfl rfl rfl h.1 ?_
            replace h := h.2
            refine C_Vv1 K hBA d_Model_look 48 [0, 4] [some 0, none, none, none, some 1, none] (As := [.int (one (ix i4_7)), .int (two (ix i4_7))]) (rest := []) (pc' := 94) (wl := fun group_26 => w_Model_same cI cJ cZ a_t a_ends a_there a_one a_two a_what a_piece a_kinds a_group a_many a_pieceOf a_numberOf a_ups a_jointUp a_partner a_beyonds a_gone thrown made tree items pieces joints group_26 nodes) (ws' := fun group_26 => w_Model_look cI cJ cZ a_t a_ends a_there a_one a_two a_what a_piece a_kinds a_group a_many a_pieceOf a_numberOf a_ups a_jointUp a_partner a_beyonds a_gone thrown made tree items one two piece pieces joints group_26 many_3 nodes) v_Model_81 ⟨rfl, rfl, Nat.le_trans (Nat.le_of_ble_eq_true rfl) hR1, Nat.le_trans (Nat.le_of_ble_eq_true rfl) hR2⟩ (fun sz => met_Model_same l D cI cJ cZ a_t a_ends a_there a_one a_two a_what a_piece a_kinds a_group a_many a_pieceOf a_numberOf a_ups a_jointUp a_partner a_beyonds a_gone thrown made tree items pieces joints group_8 nodes (one (ix i4_7)) (two (ix i4_7)) _ sz) h rfl rfl rfl rfl rfl (fun _ => rfl) rfl (by decide) (Nat.le_of_ble_eq_true rfl) ⟨Nat.zero_le _, Nat.zero_le _⟩ (q0 := 0) rfl rfl (fun _ => rfl) (fun group_26 h => ?_)
            refine A_iinc K d_Model_look 49 4 (pc' := 97) (v := i4_7 + 1) (lv' := [(4, .int (i4_7 + 1)), (0, .ref a_t), (1, .int x1), (2, .int x2), (3, .int x3)]) rfl rfl rfl rfl (by decide) rfl ?_
            refine A_goto K d_Model_look 50 (pc' := 36) rfl rfl ?_
            refine A_lv [1, 2, 3, 4, 0] rfl ?_
            exact ih_10 _ _ h
  · replace h := h.2 q
    refine A_aload_n K d_Model_look 5 0 (pc' := 11) rfl rfl rfl rfl ?_
    refine A_get K d_Model_look 6 0 fl_Model_32 (pc' := 14) rfl rfl rfl rfl ?_
    refine A_iload K d_Model_look 7 4 (pc' := 16) rfl rfl rfl ?_
    refine A_iload K d_Model_look 8 4 (pc' := 18) rfl rfl rfl ?_
    refine A_iastN K hBA d_Model_look 9 4 0 (pc' := 19) (ws' := fun group_27 => w_Model_look cI cJ cZ a_t a_ends a_there a_one a_two a_what a_piece a_kinds a_group a_many a_pieceOf a_numberOf a_ups a_jointUp a_partner a_beyonds a_gone thrown made tree items one two piece pieces joints group_27 many_3 nodes) rfl rfl rfl rfl h.1 (fun _ => rfl) (fun group_27 e_28 => ?_)
    replace h := h.2 group_27 e_28
    refine A_aload_n K d_Model_look 10 0 (pc' := 20) rfl rfl rfl rfl ?_
    refine A_get K d_Model_look 11 0 fl_Model_35 (pc' := 23) rfl rfl rfl rfl ?_
    refine A_iload K d_Model_look 12 4 (pc' := 25) rfl rfl rfl ?_
    refine A_iconst K d_Model_look 13 (pc' := 26) (v := 0) rfl rfl (by decide) ?_
    refine A_iastN K hBA d_Model_look 14 5 0 (pc' := 27) (ws' := fun many_29 => w_Model_look cI cJ cZ a_t a_ends a_there a_one a_two a_what a_piece a_kinds a_group a_many a_pieceOf a_numberOf a_ups a_jointUp a_partner a_beyonds a_gone thrown made tree items one two piece pieces joints group_27 many_29 nodes) rfl rfl rfl rfl h.1 (fun _ => rfl) (fun many_29 e_30 => ?_)
    replace h := h.2 many_29 e_30
    refine A_iinc K d_Model_look 15 4 (pc' := 30) (v := i4_1 + 1) (lv' := [(4, .int (i4_1 + 1)), (0, .ref a_t), (1, .int x1), (2, .int x2), (3, .int x3)]) rfl rfl rfl rfl (by decide) rfl ?_
    refine A_goto K d_Model_look 16 (pc' := 3) rfl rfl ?_
    refine A_lv [1, 2, 3, 4, 0] rfl ?_
    exact ih_5 _ _ _ h
theorem met_Model_look (l : Launch) (D : va_G) (cI cJ cZ : ClassId) (a_t a_ends a_there a_one a_two a_what a_piece a_kinds a_group a_many a_pieceOf a_numberOf a_ups a_jointUp a_partner a_beyonds a_gone : Nat) (thrown : Int32) (made : Int32) (tree : Int32) (items : Int32) (one : Nat → Int32) (two : Nat → Int32) (piece : Nat → Int32) (pieces : Int32) (joints : Int32) (group : Nat → Int32) (many : Nat → Int32) (nodes : Int32) (x1 : Int32) (x2 : Int32) (x3 : Int32) (post : Int32 → (Nat → Int32) → (Nat → Int32) → Prop) (sz : Nat) : Met l y_Model_look (Cond.code y_Model_look c_Model_look 7 (Option.some Jvm.ClassFile.FieldType.int) :: GW) { frames := 3, cells := 0, slots := 0, locals := 68 } (va_Pc [.ref a_t, .int x1, .int x2, .int x3] (fun U => sk_P D (tyl cI cJ cZ) (w_Model_look cI cJ cZ a_t a_ends a_there a_one a_two a_what a_piece a_kinds a_group a_many a_pieceOf a_numberOf a_ups a_jointUp a_partner a_beyonds a_gone thrown made tree items one two piece pieces joints group many nodes) sz U ∧ wp_Model_look items one two piece group many x1 x2 x3 post)) (va_Qi (fun (r : Int32) (u : (Nat → Int32) × (Nat → Int32)) => post r u.1 u.2) (fun u t => sk_B D (tyl cI cJ cZ) (w_Model_look cI cJ cZ a_t a_ends a_there a_one a_two a_what a_piece a_kinds a_group a_many a_pieceOf a_numberOf a_ups a_jointUp a_partner a_beyonds a_gone thrown made tree items one two piece pieces joints u.1 u.2 nodes) (va_A (w_Model_look cI cJ cZ a_t a_ends a_there a_one a_two a_what a_piece a_kinds a_group a_many a_pieceOf a_numberOf a_ups a_jointUp a_partner a_beyonds a_gone thrown made tree items one two piece pieces joints group many nodes) sz) t) (va_A (w_Model_look cI cJ cZ a_t a_ends a_there a_one a_two a_what a_piece a_kinds a_group a_many a_pieceOf a_numberOf a_ups a_jointUp a_partner a_beyonds a_gone thrown made tree items one two piece pieces joints group many nodes) sz)) 0 0 (va_A (w_Model_look cI cJ cZ a_t a_ends a_there a_one a_two a_what a_piece a_kinds a_group a_many a_pieceOf a_numberOf a_ups a_jointUp a_partner a_beyonds a_gone thrown made tree items one two piece pieces joints group many nodes) sz) :=
  sk_intro (by decide) (Nat.le_of_ble_eq_true rfl) (fun p e s m below meth c K hr _ h => bd_Model_look K (Nat.le_refl _) (Nat.le_refl _) (fun _ z => z) (fun ti pc r y0 y1 lv hd hp => A_iret K d_Model_look ti hr (post := (fun (r : Int32) (u : (Nat → Int32) × (Nat → Int32)) => post r u.1 u.2)) (wl := fun (u : (Nat → Int32) × (Nat → Int32)) => w_Model_look cI cJ cZ a_t a_ends a_there a_one a_two a_what a_piece a_kinds a_group a_many a_pieceOf a_numberOf a_ups a_jointUp a_partner a_beyonds a_gone thrown made tree items one two piece pieces joints u.1 u.2 nodes) (y0, y1) hd hp) h)
/-! SkeletonTreeModel.sizeOf(I)I -/
def t_Model_sizeOf : List (Nat × Instr × Nat) := [(0, .iconst 0, 1), (1, .istore_n 2, 1), (2, .iconst 0, 1), (3, .istore_n 3, 1), (4, .iload_n 3, 1), (5, .aload_n 0, 1), (6, .getfield 98, 3), (9, .if_icmp .ge 27, 3), (12, .aload_n 0, 1), (13, .getfield 26, 3), (16, .iload_n 3, 1), (17, .iaload, 1), (18, .iload_n 1, 1), (19, .if_icmp .ne 9, 3), (22, .iload_n 2, 1), (23, .iconst 1, 1), (24, .iadd, 1), (25, .goto 4, 3), (28, .iload_n 2, 1), (29, .istore_n 2, 1), (30, .iinc 3 1, 3), (33, .goto (-29), 3), (36, .iload_n 2, 1), (37, .ireturn, 1)]
set_option maxRecDepth 100000 in
theorem d_Model_sizeOf : sk_T c_Model_sizeOf t_Model_sizeOf := by unfold sk_T t_Model_sizeOf; decide +kernel
def w_Model_sizeOf (cI cJ cZ : ClassId) (a_t a_ends a_there a_one a_two a_what a_piece a_kinds a_group a_many a_pieceOf a_numberOf a_ups a_jointUp a_partner a_beyonds a_gone : Nat) (thrown : Int32) (made : Int32) (tree : Int32) (items : Int32) (piece : Nat → Int32) (pieces : Int32) (joints : Int32) (nodes : Int32) : va_W := [(a_t, .inr (5, [.int thrown, .int made, .ref a_ends, .ref a_there, .int tree, .int items, .ref a_one, .ref a_two, .ref a_what, .ref a_piece, .int pieces, .int joints, .ref a_kinds, .ref a_group, .ref a_many, .int nodes, .ref a_pieceOf, .ref a_numberOf, .ref a_ups, .ref a_jointUp, .ref a_partner, .ref a_beyonds, .ref a_gone])), (a_piece, .inl (cI, 320, .inl piece))]
def wp_Model_sizeOf  (items : Int32) (piece : Nat → Int32) (x1 : Int32) (post : Int32 → Prop) : Prop :=
  ∃ n, sL2 (fun (K_3 : Int32 → Int32 → Prop) (i2_1 : Int32) (i3_2 : Int32) => (items ≤ i3_2 → post i2_1 ) ∧ (¬ items ≤ i3_2 → vp_in i3_2 320 ∧ (¬ (piece (ix i3_2)) = x1 → K_3 i2_1 (i3_2 + 1)) ∧ ((piece (ix i3_2)) = x1 → K_3 (i2_1 + 1) (i3_2 + 1)))) n 0 0
set_option maxHeartbeats 4000000 in
set_option maxRecDepth 100000 in
theorem bd_Model_sizeOf {p : Program} {l : Launch} {e : Env} {R : Room} {s : State} {m : MethodId} {args : Array Value} {below : List Frame} {meth : Method} {c : Code} {D : va_G} {A B : Nat → Prop} {Q : State → Prop} {cI cJ cZ : ClassId} {a_t a_ends a_there a_one a_two a_what a_piece a_kinds a_group a_many a_pieceOf a_numberOf a_ups a_jointUp a_partner a_beyonds a_gone : Nat} {thrown : Int32} {made : Int32} {tree : Int32} {items : Int32} {piece : Nat → Int32} {pieces : Int32} {joints : Int32} {nodes : Int32} {x1 : Int32} (K : sk_C p s m args meth c c_Model_sizeOf 4 "SkeletonTreeModel" D (tyl cI cJ cZ)) (hR1 : 0 ≤ R.frames) (hR2 : 0 ≤ R.locals) {post : Int32 → Prop} (hend : ∀ (ti pc : Nat) (r : Int32)  (lv : List (Nat × Value)), t_Model_sizeOf[ti]? = some (pc, .ireturn, 1) → post r  → AW p l e R s m args below meth c D A B 4 Q 0 0 (w_Model_sizeOf cI cJ cZ a_t a_ends a_there a_one a_two a_what a_piece a_kinds a_group a_many a_pieceOf a_numberOf a_ups a_jointUp a_partner a_beyonds a_gone thrown made tree items piece pieces joints nodes) lv pc [.int r]) (h : wp_Model_sizeOf items piece x1 post) : AW p l e R s m args below meth c D A B 4 Q 0 0 (w_Model_sizeOf cI cJ cZ a_t a_ends a_there a_one a_two a_what a_piece a_kinds a_group a_many a_pieceOf a_numberOf a_ups a_jointUp a_partner a_beyonds a_gone thrown made tree items piece pieces joints nodes) [(0, .ref a_t), (1, .int x1)] 0 [] := by
  unfold wp_Model_sizeOf at h
  refine A_iconst K d_Model_sizeOf 0 (pc' := 1) (v := 0) rfl rfl (by decide) ?_
  refine A_istore_n K d_Model_sizeOf 1 (pc' := 2) (lv' := [(2, .int 0), (0, .ref a_t), (1, .int x1)]) rfl rfl rfl (by decide) rfl ?_
  refine A_iconst K d_Model_sizeOf 2 (pc' := 3) (v := 0) rfl rfl (by decide) ?_
  refine A_istore_n K d_Model_sizeOf 3 (pc' := 4) (lv' := [(3, .int 0), (2, .int 0), (0, .ref a_t), (1, .int x1)]) rfl rfl rfl (by decide) rfl ?_
  refine A_lv [2, 3, 1, 0] rfl ?_
  obtain ⟨n_5, h⟩ := h
  refine sL2_ind (fun (i2_1 : Int32) (i3_2 : Int32) => AW p l e R s m args below meth c D A B 4 Q 0 0 (w_Model_sizeOf cI cJ cZ a_t a_ends a_there a_one a_two a_what a_piece a_kinds a_group a_many a_pieceOf a_numberOf a_ups a_jointUp a_partner a_beyonds a_gone thrown made tree items piece pieces joints nodes) [(0, .ref a_t), (1, .int x1), (2, .int i2_1), (3, .int i3_2)] 4 []) ?_ n_5 _ _ h
  intro K_3 ih_4 i2_1 i3_2 h
  refine A_iload_n K d_Model_sizeOf 4 3 (pc' := 5) rfl rfl rfl rfl ?_
  refine A_aload_n K d_Model_sizeOf 5 0 (pc' := 6) rfl rfl rfl rfl ?_
  refine A_get K d_Model_sizeOf 6 0 fl_Model_98 (pc' := 9) rfl rfl rfl rfl ?_
  refine A_icmp_ge K d_Model_sizeOf 7 36 (pc' := 12) rfl rfl rfl (fun q => ?_) (fun q => ?_)
  · replace h := h.1 q
    refine A_iload_n K d_Model_sizeOf 22 2 (pc' := 37) rfl rfl rfl rfl ?_
    exact hend 23 _ _ _ rfl h
  · replace h := h.2 q
    refine A_aload_n K d_Model_sizeOf 8 0 (pc' := 13) rfl rfl rfl rfl ?_
    refine A_get K d_Model_sizeOf 9 0 fl_Model_26 (pc' := 16) rfl rfl rfl rfl ?_
    refine A_iload_n K d_Model_sizeOf 10 3 (pc' := 17) rfl rfl rfl rfl ?_
    refine A_iald K d_Model_sizeOf 11 1 0 (pc' := 18) rfl rfl rfl rfl h.1 ?_
    replace h := h.2
    refine A_iload_n K d_Model_sizeOf 12 1 (pc' := 19) rfl rfl rfl rfl ?_
    refine A_icmp_ne K d_Model_sizeOf 13 28 (pc' := 22) rfl rfl rfl (fun q => ?_) (fun q => ?_)
    · replace h := h.1 q
      refine A_iload_n K d_Model_sizeOf 18 2 (pc' := 29) rfl rfl rfl rfl ?_
      refine A_istore_n K d_Model_sizeOf 19 (pc' := 30) (lv' := [(2, .int i2_1), (0, .ref a_t), (1, .int x1), (3, .int i3_2)]) rfl rfl rfl (by decide) rfl ?_
      refine A_iinc K d_Model_sizeOf 20 3 (pc' := 33) (v := i3_2 + 1) (lv' := [(3, .int (i3_2 + 1)), (2, .int i2_1), (0, .ref a_t), (1, .int x1)]) rfl rfl rfl rfl (by decide) rfl ?_
      refine A_goto K d_Model_sizeOf 21 (pc' := 4) rfl rfl ?_
      refine A_lv [2, 3, 1, 0] rfl ?_
      exact ih_4 _ _ h
    · replace h := h.2 q
      refine A_iload_n K d_Model_sizeOf 14 2 (pc' := 23) rfl rfl rfl rfl ?_
      refine A_iconst K d_Model_sizeOf 15 (pc' := 24) (v := 1) rfl rfl (by decide) ?_
      refine A_iadd K d_Model_sizeOf 16 (pc' := 25) rfl rfl ?_
      refine A_goto K d_Model_sizeOf 17 (pc' := 29) rfl rfl ?_
      refine A_istore_n K d_Model_sizeOf 19 (pc' := 30) (lv' := [(2, .int (i2_1 + 1)), (0, .ref a_t), (1, .int x1), (3, .int i3_2)]) rfl rfl rfl (by decide) rfl ?_
      refine A_iinc K d_Model_sizeOf 20 3 (pc' := 33) (v := i3_2 + 1) (lv' := [(3, .int (i3_2 + 1)), (2, .int (i2_1 + 1)), (0, .ref a_t), (1, .int x1)]) rfl rfl rfl rfl (by decide) rfl ?_
      refine A_goto K d_Model_sizeOf 21 (pc' := 4) rfl rfl ?_
      refine A_lv [2, 3, 1, 0] rfl ?_
      exact ih_4 _ _ h
theorem met_Model_sizeOf (l : Launch) (D : va_G) (cI cJ cZ : ClassId) (a_t a_ends a_there a_one a_two a_what a_piece a_kinds a_group a_many a_pieceOf a_numberOf a_ups a_jointUp a_partner a_beyonds a_gone : Nat) (thrown : Int32) (made : Int32) (tree : Int32) (items : Int32) (piece : Nat → Int32) (pieces : Int32) (joints : Int32) (nodes : Int32) (x1 : Int32) (post : Int32 → Prop) (sz : Nat) : Met l y_Model_sizeOf (Cond.code y_Model_sizeOf c_Model_sizeOf 4 (Option.some Jvm.ClassFile.FieldType.int) :: GW) { frames := 0, cells := 0, slots := 0, locals := 0 } (va_Pc [.ref a_t, .int x1] (fun U => sk_P D (tyl cI cJ cZ) (w_Model_sizeOf cI cJ cZ a_t a_ends a_there a_one a_two a_what a_piece a_kinds a_group a_many a_pieceOf a_numberOf a_ups a_jointUp a_partner a_beyonds a_gone thrown made tree items piece pieces joints nodes) sz U ∧ wp_Model_sizeOf items piece x1 post)) (va_Qi (fun (r : Int32) (_ : Unit) => post r) (fun _ t => sk_B D (tyl cI cJ cZ) (w_Model_sizeOf cI cJ cZ a_t a_ends a_there a_one a_two a_what a_piece a_kinds a_group a_many a_pieceOf a_numberOf a_ups a_jointUp a_partner a_beyonds a_gone thrown made tree items piece pieces joints nodes) (fun _ => True) t) (fun q => sz ≤ q)) 0 0 (fun q => sz ≤ q) :=
  sk_introR (by decide) (Nat.le_of_ble_eq_true rfl) (fun p e s m below meth c K hr _ h => bd_Model_sizeOf K (Nat.le_refl _) (Nat.le_refl _) (fun ti pc r  lv hd hp => A_iret K d_Model_sizeOf ti hr (post := (fun (r : Int32) (_ : Unit) => post r)) (wl := fun (_ : Unit) => w_Model_sizeOf cI cJ cZ a_t a_ends a_there a_one a_two a_what a_piece a_kinds a_group a_many a_pieceOf a_numberOf a_ups a_jointUp a_partner a_beyonds a_gone thrown made tree items piece pieces joints nodes) () hd hp) h)
/-! SkeletonTreeModel.partOf(III)I -/
def t_Model_partOf : List (Nat × Instr × Nat) := [(0, .aload_n 0, 1), (1, .iload_n 1, 1), (2, .iload_n 2, 1), (3, .iload_n 3, 1), (4, .invokevirtual 113, 3), (7, .istore 4, 2), (9, .aload_n 0, 1), (10, .iload_n 1, 1), (11, .invokevirtual 116, 3), (14, .istore 5, 2), (16, .iconst 0, 1), (17, .istore 6, 2), (19, .iload 6, 2), (21, .bipush 40, 2), (23, .if_icmp .ge 37, 3), (26, .aload_n 0, 1), (27, .getfield 35, 3), (30, .iload 6, 2), (32, .iaload, 1), (33, .iconst 1, 1), (34, .if_icmp .le 20, 3), (37, .iload 5, 2), (39, .aload_n 0, 1), (40, .getfield 35, 3), (43, .iload 6, 2), (45, .iaload, 1), (46, .isub, 1), (47, .iconst 1, 1), (48, .if_icmp .le 6, 3), (51, .iload 6, 2), (53, .ireturn, 1), (54, .iinc 6 1, 3), (57, .goto (-38), 3), (60, .iload 4, 2), (62, .iconst 1, 1), (63, .if_icmp .le 16, 3), (66, .iload 5, 2), (68, .iconst 2, 1), (69, .isub, 1), (70, .iconst 1, 1), (71, .if_icmp .le 8, 3), (74, .bipush 40, 2), (76, .goto 4, 3), (79, .iconst (-1), 1), (80, .ireturn, 1)]
set_option maxRecDepth 100000 in
theorem d_Model_partOf : sk_T c_Model_partOf t_Model_partOf := by unfold sk_T t_Model_partOf; decide +kernel
def w_Model_partOf (cI cJ cZ : ClassId) (a_t a_ends a_there a_one a_two a_what a_piece a_kinds a_group a_many a_pieceOf a_numberOf a_ups a_jointUp a_partner a_beyonds a_gone : Nat) (thrown : Int32) (made : Int32) (tree : Int32) (items : Int32) (one : Nat → Int32) (two : Nat → Int32) (piece : Nat → Int32) (pieces : Int32) (joints : Int32) (group : Nat → Int32) (many : Nat → Int32) (nodes : Int32) : va_W := [(a_t, .inr (5, [.int thrown, .int made, .ref a_ends, .ref a_there, .int tree, .int items, .ref a_one, .ref a_two, .ref a_what, .ref a_piece, .int pieces, .int joints, .ref a_kinds, .ref a_group, .ref a_many, .int nodes, .ref a_pieceOf, .ref a_numberOf, .ref a_ups, .ref a_jointUp, .ref a_partner, .ref a_beyonds, .ref a_gone])), (a_one, .inl (cI, 320, .inl one)), (a_two, .inl (cI, 320, .inl two)), (a_piece, .inl (cI, 320, .inl piece)), (a_group, .inl (cI, 40, .inl group)), (a_many, .inl (cI, 40, .inl many))]
def wp_Model_partOf  (items : Int32) (one : Nat → Int32) (two : Nat → Int32) (piece : Nat → Int32) (group : Nat → Int32) (many : Nat → Int32) (x1 : Int32) (x2 : Int32) (x3 : Int32) (post : Int32 → (Nat → Int32) → (Nat → Int32) → Prop) : Prop :=
  wp_Model_look items one two piece group many x1 x2 x3 (fun r_3 group_1 many_2 => wp_Model_sizeOf items piece x1 (fun r_4 => ∃ n, sL1 (fun (K_6 : Int32 → Prop) (i6_5 : Int32) => (40 ≤ i6_5 → (r_3 ≤ 1 → post (-1) group_1 many_2) ∧ (¬ r_3 ≤ 1 → ((r_4 - 2) ≤ 1 → post (-1) group_1 many_2) ∧ (¬ (r_4 - 2) ≤ 1 → post 40 group_1 many_2))) ∧ (¬ 40 ≤ i6_5 → vp_in i6_5 40 ∧ ((many_2 (ix i6_5)) ≤ 1 → K_6 (i6_5 + 1)) ∧ (¬ (many_2 (ix i6_5)) ≤ 1 → vp_in i6_5 40 ∧ ((r_4 - (many_2 (ix i6_5))) ≤ 1 → K_6 (i6_5 + 1)) ∧ (¬ (r_4 - (many_2 (ix i6_5))) ≤ 1 → post i6_5 group_1 many_2)))) n 0))
set_option maxHeartbeats 4000000 in
set_option maxRecDepth 100000 in
theorem bd_Model_partOf {p : Program} {l : Launch} {e : Env} {R : Room} {s : State} {m : MethodId} {args : Array Value} {below : List Frame} {meth : Method} {c : Code} {D : va_G} {A B : Nat → Prop} {Q : State → Prop} {cI cJ cZ : ClassId} {a_t a_ends a_there a_one a_two a_what a_piece a_kinds a_group a_many a_pieceOf a_numberOf a_ups a_jointUp a_partner a_beyonds a_gone : Nat} {thrown : Int32} {made : Int32} {tree : Int32} {items : Int32} {one : Nat → Int32} {two : Nat → Int32} {piece : Nat → Int32} {pieces : Int32} {joints : Int32} {group : Nat → Int32} {many : Nat → Int32} {nodes : Int32} {x1 : Int32} {x2 : Int32} {x3 : Int32} (K : sk_C p s m args meth c c_Model_partOf 7 "SkeletonTreeModel" D (tyl cI cJ cZ)) (hR1 : 4 ≤ R.frames) (hR2 : 94 ≤ R.locals) (hBA : ∀ q : Nat, B q → A q) {post : Int32 → (Nat → Int32) → (Nat → Int32) → Prop} (hend : ∀ (ti pc : Nat) (r : Int32) (y0 : Nat → Int32) (y1 : Nat → Int32) (lv : List (Nat × Value)), t_Model_partOf[ti]? = some (pc, .ireturn, 1) → post r y0 y1 → AW p l e R s m args below meth c D A B 7 Q 0 0 (w_Model_partOf cI cJ cZ a_t a_ends a_there a_one a_two a_what a_piece a_kinds a_group a_many a_pieceOf a_numberOf a_ups a_jointUp a_partner a_beyonds a_gone thrown made tree items one two piece pieces joints y0 y1 nodes) lv pc [.int r]) (h : wp_Model_partOf items one two piece group many x1 x2 x3 post) : AW p l e R s m args below meth c D A B 7 Q 0 0 (w_Model_partOf cI cJ cZ a_t a_ends a_there a_one a_two a_what a_piece a_kinds a_group a_many a_pieceOf a_numberOf a_ups a_jointUp a_partner a_beyonds a_gone thrown made tree items one two piece pieces joints group many nodes) [(0, .ref a_t), (1, .int x1), (2, .int x2), (3, .int x3)] 0 [] := by
  unfold wp_Model_partOf at h
  refine A_aload_n K d_Model_partOf 0 0 (pc' := 1) rfl rfl rfl rfl ?_
  refine A_iload_n K d_Model_partOf 1 1 (pc' := 2) rfl rfl rfl rfl ?_
  refine A_iload_n K d_Model_partOf 2 2 (pc' := 3) rfl rfl rfl rfl ?_
  refine A_iload_n K d_Model_partOf 3 3 (pc' := 4) rfl rfl rfl rfl ?_
  refine C_Vi2 K hBA d_Model_partOf 4 [0, 1, 2, 3, 4, 5] [some 0, some 1, some 2, some 3, some 4, some 5] (As := [.int x1, .int x2, .int x3]) (rest := []) (pc' := 7) (wl := fun group_1 many_2 => w_Model_look cI cJ cZ a_t a_ends a_there a_one a_two a_what a_piece a_kinds a_group a_many a_pieceOf a_numberOf a_ups a_jointUp a_partner a_beyonds a_gone thrown made tree items one two piece pieces joints group_1 many_2 nodes) (ws' := fun group_1 many_2 => w_Model_partOf cI cJ cZ a_t a_ends a_there a_one a_two a_what a_piece a_kinds a_group a_many a_pieceOf a_numberOf a_ups a_jointUp a_partner a_beyonds a_gone thrown made tree items one two piece pieces joints group_1 many_2 nodes) v_Model_113 ⟨rfl, rfl, Nat.le_trans (Nat.le_of_ble_eq_true rfl) hR1, Nat.le_trans (Nat.le_of_ble_eq_true rfl) hR2⟩ (fun sz => met_Model_look l D cI cJ cZ a_t a_ends a_there a_one a_two a_what a_piece a_kinds a_group a_many a_pieceOf a_numberOf a_ups a_jointUp a_partner a_beyonds a_gone thrown made tree items one two piece pieces joints group many nodes x1 x2 x3 _ sz) h rfl rfl rfl rfl rfl (fun _ _ => rfl) rfl (by decide) (Nat.le_of_ble_eq_true rfl) ⟨Nat.zero_le _, Nat.zero_le _⟩ (q0 := 0) rfl rfl (fun _ _ => rfl) (fun r_3 group_1 many_2 h => ?_)
  refine A_istore K d_Model_partOf 5 (pc' := 9) (lv' := [(4, .int r_3), (0, .ref a_t), (1, .int x1), (2, .int x2), (3, .int x3)]) rfl rfl (by decide) rfl ?_
  refine A_aload_n K d_Model_partOf 6 1 (pc' := 10) rfl rfl rfl rfl ?_
  refine A_iload_n K d_Model_partOf 7 2 (pc' := 11) rfl rfl rfl rfl ?_
  refine R_callV_i K d_Model_partOf 8 [0, 3] (As := [.int x1]) (rest := []) (pc' := 14) v_Model_116 ⟨rfl, rfl, Nat.le_trans (Nat.le_of_ble_eq_true rfl) hR1, Nat.le_trans (Nat.le_of_ble_eq_true rfl) hR2⟩ (fun sz => met_Model_sizeOf l D cI cJ cZ a_t a_ends a_there a_one a_two a_what a_piece a_kinds a_group a_many a_pieceOf a_numberOf a_ups a_jointUp a_partner a_beyonds a_gone thrown made tree items piece pieces joints nodes x1 _ sz) h rfl rfl rfl rfl rfl rfl (Nat.le_of_ble_eq_true rfl) ⟨Nat.zero_le _, Nat.zero_le _⟩ (q0 := 0) rfl rfl (fun r_4 h => ?_)
  refine A_istore K d_Model_partOf 9 (pc' := 16) (lv' := [(5, .int r_4), (4, .int r_3), (0, .ref a_t), (1, .int x1), (2, .int x2), (3, .int x3)]) rfl rfl (by decide) rfl ?_
  refine A_iconst K d_Model_partOf 10 (pc' := 17) (v := 0) rfl rfl (by decide) ?_
  refine A_istore K d_Model_partOf 11 (pc' := 19) (lv' := [(6, .int 0), (5, .int r_4), (4, .int r_3), (0, .ref a_t), (1, .int x1), (2, .int x2), (3, .int x3)]) rfl rfl (by decide) rfl ?_
  refine A_lv [3, 2, 1, 0] rfl ?_
  obtain ⟨n_8, h⟩ := h
  refine sL1_ind (fun (i6_5 : Int32) => AW p l e R s m args below meth c D A B 7 Q 0 0 (w_Model_partOf cI cJ cZ a_t a_ends a_there a_one a_two a_what a_piece a_kinds a_group a_many a_pieceOf a_numberOf a_ups a_jointUp a_partner a_beyonds a_gone thrown made tree items one two piece pieces joints group_1 many_2 nodes) [(0, .ref a_t), (4, .int r_3), (5, .int r_4), (6, .int i6_5)] 19 []) ?_ n_8 _ h
  intro K_6 ih_7 i6_5 h
  refine A_iload K d_Model_partOf 12 3 (pc' := 21) rfl rfl rfl ?_
  refine A_bipush K d_Model_partOf 13 (pc' := 23) (v := 40) rfl rfl (by decide) ?_
  refine A_icmp_ge K d_Model_partOf 14 60 (pc' := 26) rfl rfl rfl (fun q => ?_) (fun q => ?_)
  · replace h := h.1 q
    refine A_iload K d_Model_partOf 33 1 (pc' := 62) rfl rfl rfl ?_
    refine A_iconst K d_Model_partOf 34 (pc' := 63) (v := 1) rfl rfl (by decide) ?_
    refine A_icmp_le K d_Model_partOf 35 79 (pc' := 66) rfl rfl rfl (fun q => ?_) (fun q => ?_)
    · replace h := h.1 q
      refine A_iconst K d_Model_partOf 43 (pc' := 80) (v := (-1)) rfl rfl (by decide) ?_
      exact hend 44 _ _ _ _ _ rfl h
    · replace h := h.2 q
      refine A_iload K d_Model_partOf 36 2 (pc' := 68) rfl rfl rfl ?_
      refine A_iconst K d_Model_partOf 37 (pc' := 69) (v := 2) rfl rfl (by decide) ?_
      refine A_isub K d_Model_partOf 38 (pc' := 70) rfl rfl ?_
      refine A_iconst K d_Model_partOf 39 (pc' := 71) (v := 1) rfl rfl (by decide) ?_
      refine A_icmp_le K d_Model_partOf 40 79 (pc' := 74) rfl rfl rfl (fun q => ?_) (fun q => ?_)
      · replace h := h.1 q
        refine A_iconst K d_Model_partOf 43 (pc' := 80) (v := (-1)) rfl rfl (by decide) ?_
        exact hend 44 _ _ _ _ _ rfl h
      · replace h := h.2 q
        refine A_bipush K d_Model_partOf 41 (pc' := 76) (v := 40) rfl rfl (by decide) ?_
        refine A_goto K d_Model_partOf 42 (pc' := 80) rfl rfl ?_
        exact hend 44 _ _ _ _ _ rfl h
  · replace h := h.2 q
    refine A_aload_n K d_Model_partOf 15 0 (pc' := 27) rfl rfl rfl rfl ?_
    refine A_get K d_Model_partOf 16 0 fl_Model_35 (pc' := 30) rfl rfl rfl rfl ?_
    refine A_iload K d_Model_partOf 17 3 (pc' := 32) rfl rfl rfl ?_
    refine A_iald K d_Model_partOf 18 5 0 (pc' := 33) rfl rfl rfl rfl h.1 ?_
    replace h := h.2
    refine A_iconst K d_Model_partOf 19 (pc' := 34) (v := 1) rfl rfl (by decide) ?_
    refine A_icmp_le K d_Model_partOf 20 54 (pc' := 37) rfl rfl rfl (fun q => ?_) (fun q => ?_)
    · replace h := h.1 q
      refine A_iinc K d_Model_partOf 31 3 (pc' := 57) (v := i6_5 + 1) (lv' := [(6, .int (i6_5 + 1)), (0, .ref a_t), (4, .int r_3), (5, .int r_4)]) rfl rfl rfl rfl (by decide) rfl ?_
      refine A_goto K d_Model_partOf 32 (pc' := 19) rfl rfl ?_
      refine A_lv [1, 2, 3, 0] rfl ?_
      exact ih_7 _ h
    · replace h := h.2 q
      refine A_iload K d_Model_partOf 21 2 (pc' := 39) rfl rfl rfl ?_
      refine A_aload_n K d_Model_partOf 22 0 (pc' := 40) rfl rfl rfl rfl ?_
      refine A_get K d_Model_partOf 23 0 fl_Model_35 (pc' := 43) rfl rfl rfl rfl ?_
      refine A_iload K d_Model_partOf 24 3 (pc' := 45) rfl rfl rfl ?_
      refine A_iald K d_Model_partOf 25 5 0 (pc' := 46) rfl rfl rfl rfl h.1 ?_
      replace h := h.2
      refine A_isub K d_Model_partOf 26 (pc' := 47) rfl rfl ?_
      refine A_iconst K d_Model_partOf 27 (pc' := 48) (v := 1) rfl rfl (by decide) ?_
      refine A_icmp_le K d_Model_partOf 28 54 (pc' := 51) rfl rfl rfl (fun q => ?_) (fun q => ?_)
      · replace h := h.1 q
        refine A_iinc K d_Model_partOf 31 3 (pc' := 57) (v := i6_5 + 1) (lv' := [(6, .int (i6_5 + 1)), (0, .ref a_t), (4, .int r_3), (5, .int r_4)]) rfl rfl rfl rfl (by decide) rfl ?_
        refine A_goto K d_Model_partOf 32 (pc' := 19) rfl rfl ?_
        refine A_lv [1, 2, 3, 0] rfl ?_
        exact ih_7 _ h
      · replace h := h.2 q
        refine A_iload K d_Model_partOf 29 3 (pc' := 53) rfl rfl rfl ?_
        exact hend 30 _ _ _ _ _ rfl h
theorem met_Model_partOf (l : Launch) (D : va_G) (cI cJ cZ : ClassId) (a_t a_ends a_there a_one a_two a_what a_piece a_kinds a_group a_many a_pieceOf a_numberOf a_ups a_jointUp a_partner a_beyonds a_gone : Nat) (thrown : Int32) (made : Int32) (tree : Int32) (items : Int32) (one : Nat → Int32) (two : Nat → Int32) (piece : Nat → Int32) (pieces : Int32) (joints : Int32) (group : Nat → Int32) (many : Nat → Int32) (nodes : Int32) (x1 : Int32) (x2 : Int32) (x3 : Int32) (post : Int32 → (Nat → Int32) → (Nat → Int32) → Prop) (sz : Nat) : Met l y_Model_partOf (Cond.code y_Model_partOf c_Model_partOf 7 (Option.some Jvm.ClassFile.FieldType.int) :: GW) { frames := 4, cells := 0, slots := 0, locals := 94 } (va_Pc [.ref a_t, .int x1, .int x2, .int x3] (fun U => sk_P D (tyl cI cJ cZ) (w_Model_partOf cI cJ cZ a_t a_ends a_there a_one a_two a_what a_piece a_kinds a_group a_many a_pieceOf a_numberOf a_ups a_jointUp a_partner a_beyonds a_gone thrown made tree items one two piece pieces joints group many nodes) sz U ∧ wp_Model_partOf items one two piece group many x1 x2 x3 post)) (va_Qi (fun (r : Int32) (u : (Nat → Int32) × (Nat → Int32)) => post r u.1 u.2) (fun u t => sk_B D (tyl cI cJ cZ) (w_Model_partOf cI cJ cZ a_t a_ends a_there a_one a_two a_what a_piece a_kinds a_group a_many a_pieceOf a_numberOf a_ups a_jointUp a_partner a_beyonds a_gone thrown made tree items one two piece pieces joints u.1 u.2 nodes) (va_A (w_Model_partOf cI cJ cZ a_t a_ends a_there a_one a_two a_what a_piece a_kinds a_group a_many a_pieceOf a_numberOf a_ups a_jointUp a_partner a_beyonds a_gone thrown made tree items one two piece pieces joints group many nodes) sz) t) (va_A (w_Model_partOf cI cJ cZ a_t a_ends a_there a_one a_two a_what a_piece a_kinds a_group a_many a_pieceOf a_numberOf a_ups a_jointUp a_partner a_beyonds a_gone thrown made tree items one two piece pieces joints group many nodes) sz)) 0 0 (va_A (w_Model_partOf cI cJ cZ a_t a_ends a_there a_one a_two a_what a_piece a_kinds a_group a_many a_pieceOf a_numberOf a_ups a_jointUp a_partner a_beyonds a_gone thrown made tree items one two piece pieces joints group many nodes) sz) :=
  sk_intro (by decide) (Nat.le_of_ble_eq_true rfl) (fun p e s m below meth c K hr _ h => bd_Model_partOf K (Nat.le_refl _) (Nat.le_refl _) (fun _ z => z) (fun ti pc r y0 y1 lv hd hp => A_iret K d_Model_partOf ti hr (post := (fun (r : Int32) (u : (Nat → Int32) × (Nat → Int32)) => post r u.1 u.2)) (wl := fun (u : (Nat → Int32) × (Nat → Int32)) => w_Model_partOf cI cJ cZ a_t a_ends a_there a_one a_two a_what a_piece a_kinds a_group a_many a_pieceOf a_numberOf a_ups a_jointUp a_partner a_beyonds a_gone thrown made tree items one two piece pieces joints u.1 u.2 nodes) (y0, y1) hd hp) h)
/-! SkeletonTreeModel.hasPoint(II)Z -/
def t_Model_hasPoint : List (Nat × Instr × Nat) := [(0, .iconst 0, 1), (1, .istore_n 3, 1), (2, .iload_n 3, 1), (3, .aload_n 0, 1), (4, .getfield 98, 3), (7, .if_icmp .ge 30, 3), (10, .aload_n 0, 1), (11, .getfield 26, 3), (14, .iload_n 3, 1), (15, .iaload, 1), (16, .iload_n 1, 1), (17, .if_icmp .ne 14, 3), (20, .aload_n 0, 1), (21, .iload_n 3, 1), (22, .iload_n 2, 1), (23, .invokevirtual 101, 3), (26, .ifCond .eq 5, 3), (29, .iconst 1, 1), (30, .ireturn, 1), (31, .iinc 3 1, 3), (34, .goto (-32), 3), (37, .iconst 0, 1), (38, .ireturn, 1)]
set_option maxRecDepth 100000 in
theorem d_Model_hasPoint : sk_T c_Model_hasPoint t_Model_hasPoint := by unfold sk_T t_Model_hasPoint; decide +kernel
def w_Model_hasPoint (cI cJ cZ : ClassId) (a_t a_ends a_there a_one a_two a_what a_piece a_kinds a_group a_many a_pieceOf a_numberOf a_ups a_jointUp a_partner a_beyonds a_gone : Nat) (thrown : Int32) (made : Int32) (tree : Int32) (items : Int32) (one : Nat → Int32) (two : Nat → Int32) (piece : Nat → Int32) (pieces : Int32) (joints : Int32) (nodes : Int32) : va_W := [(a_t, .inr (5, [.int thrown, .int made, .ref a_ends, .ref a_there, .int tree, .int items, .ref a_one, .ref a_two, .ref a_what, .ref a_piece, .int pieces, .int joints, .ref a_kinds, .ref a_group, .ref a_many, .int nodes, .ref a_pieceOf, .ref a_numberOf, .ref a_ups, .ref a_jointUp, .ref a_partner, .ref a_beyonds, .ref a_gone])), (a_one, .inl (cI, 320, .inl one)), (a_two, .inl (cI, 320, .inl two)), (a_piece, .inl (cI, 320, .inl piece))]
def wp_Model_hasPoint  (items : Int32) (one : Nat → Int32) (two : Nat → Int32) (piece : Nat → Int32) (x1 : Int32) (x2 : Int32) (post : Int32 → Prop) : Prop :=
  ∃ n, sL1 (fun (K_2 : Int32 → Prop) (i3_1 : Int32) => (items ≤ i3_1 → post 0 ) ∧ (¬ items ≤ i3_1 → vp_in i3_1 320 ∧ (¬ (piece (ix i3_1)) = x1 → K_2 (i3_1 + 1)) ∧ ((piece (ix i3_1)) = x1 → wp_Model_touches one two i3_1 x2 (fun r_5 => (r_5 = 0 → K_2 (i3_1 + 1)) ∧ (¬ r_5 = 0 → post 1 ))))) n 0
set_option maxHeartbeats 4000000 in
set_option maxRecDepth 100000 in
theorem bd_Model_hasPoint {p : Program} {l : Launch} {e : Env} {R : Room} {s : State} {m : MethodId} {args : Array Value} {below : List Frame} {meth : Method} {c : Code} {D : va_G} {A B : Nat → Prop} {Q : State → Prop} {cI cJ cZ : ClassId} {a_t a_ends a_there a_one a_two a_what a_piece a_kinds a_group a_many a_pieceOf a_numberOf a_ups a_jointUp a_partner a_beyonds a_gone : Nat} {thrown : Int32} {made : Int32} {tree : Int32} {items : Int32} {one : Nat → Int32} {two : Nat → Int32} {piece : Nat → Int32} {pieces : Int32} {joints : Int32} {nodes : Int32} {x1 : Int32} {x2 : Int32} (K : sk_C p s m args meth c c_Model_hasPoint 4 "SkeletonTreeModel" D (tyl cI cJ cZ)) (hR1 : 1 ≤ R.frames) (hR2 : 22 ≤ R.locals) {post : Int32 → Prop} (hend : ∀ (ti pc : Nat) (r : Int32)  (lv : List (Nat × Value)), t_Model_hasPoint[ti]? = some (pc, .ireturn, 1) → sk_b r → post r  → AW p l e R s m args below meth c D A B 4 Q 0 0 (w_Model_hasPoint cI cJ cZ a_t a_ends a_there a_one a_two a_what a_piece a_kinds a_group a_many a_pieceOf a_numberOf a_ups a_jointUp a_partner a_beyonds a_gone thrown made tree items one two piece pieces joints nodes) lv pc [.int r]) (h : wp_Model_hasPoint items one two piece x1 x2 post) : AW p l e R s m args below meth c D A B 4 Q 0 0 (w_Model_hasPoint cI cJ cZ a_t a_ends a_there a_one a_two a_what a_piece a_kinds a_group a_many a_pieceOf a_numberOf a_ups a_jointUp a_partner a_beyonds a_gone thrown made tree items one two piece pieces joints nodes) [(0, .ref a_t), (1, .int x1), (2, .int x2)] 0 [] := by
  unfold wp_Model_hasPoint at h
  refine A_iconst K d_Model_hasPoint 0 (pc' := 1) (v := 0) rfl rfl (by decide) ?_
  refine A_istore_n K d_Model_hasPoint 1 (pc' := 2) (lv' := [(3, .int 0), (0, .ref a_t), (1, .int x1), (2, .int x2)]) rfl rfl rfl (by decide) rfl ?_
  refine A_lv [1, 2, 3, 0] rfl ?_
  obtain ⟨n_4, h⟩ := h
  refine sL1_ind (fun (i3_1 : Int32) => AW p l e R s m args below meth c D A B 4 Q 0 0 (w_Model_hasPoint cI cJ cZ a_t a_ends a_there a_one a_two a_what a_piece a_kinds a_group a_many a_pieceOf a_numberOf a_ups a_jointUp a_partner a_beyonds a_gone thrown made tree items one two piece pieces joints nodes) [(0, .ref a_t), (1, .int x1), (2, .int x2), (3, .int i3_1)] 2 []) ?_ n_4 _ h
  intro K_2 ih_3 i3_1 h
  refine A_iload_n K d_Model_hasPoint 2 3 (pc' := 3) rfl rfl rfl rfl ?_
  refine A_aload_n K d_Model_hasPoint 3 0 (pc' := 4) rfl rfl rfl rfl ?_
  refine A_get K d_Model_hasPoint 4 0 fl_Model_98 (pc' := 7) rfl rfl rfl rfl ?_
  refine A_icmp_ge K d_Model_hasPoint 5 37 (pc' := 10) rfl rfl rfl (fun q => ?_) (fun q => ?_)
  · replace h := h.1 q
    refine A_iconst K d_Model_hasPoint 21 (pc' := 38) (v := 0) rfl rfl (by decide) ?_
    exact hend 22 _ _ _ rfl (Or.inl rfl) h
  · replace h := h.2 q
    refine A_aload_n K d_Model_hasPoint 6 0 (pc' := 11) rfl rfl rfl rfl ?_
    refine A_get K d_Model_hasPoint 7 0 fl_Model_26 (pc' := 14) rfl rfl rfl rfl ?_
    refine A_iload_n K d_Model_hasPoint 8 3 (pc' := 15) rfl rfl rfl rfl ?_
    refine A_iald K d_Model_hasPoint 9 3 0 (pc' := 16) rfl rfl rfl rfl h.1 ?_
    replace h := h.2
    refine A_iload_n K d_Model_hasPoint 10 1 (pc' := 17) rfl rfl rfl rfl ?_
    refine A_icmp_ne K d_Model_hasPoint 11 31 (pc' := 20) rfl rfl rfl (fun q => ?_) (fun q => ?_)
    · replace h := h.1 q
      refine A_iinc K d_Model_hasPoint 19 3 (pc' := 34) (v := i3_1 + 1) (lv' := [(3, .int (i3_1 + 1)), (0, .ref a_t), (1, .int x1), (2, .int x2)]) rfl rfl rfl rfl (by decide) rfl ?_
      refine A_goto K d_Model_hasPoint 20 (pc' := 2) rfl rfl ?_
      refine A_lv [1, 2, 3, 0] rfl ?_
      exact ih_3 _ h
    · replace h := h.2 q
      refine A_aload_n K d_Model_hasPoint 12 0 (pc' := 21) rfl rfl rfl rfl ?_
      refine A_iload_n K d_Model_hasPoint 13 3 (pc' := 22) rfl rfl rfl rfl ?_
      refine A_iload_n K d_Model_hasPoint 14 2 (pc' := 23) rfl rfl rfl rfl ?_
      refine R_callV_i K d_Model_hasPoint 15 [0, 1, 2] (As := [.int i3_1, .int x2]) (rest := []) (pc' := 26) v_Model_101 ⟨rfl, rfl, Nat.le_trans (Nat.le_of_ble_eq_true rfl) hR1, Nat.le_trans (Nat.le_of_ble_eq_true rfl) hR2⟩ (fun sz => met_Model_touches l D cI cJ cZ a_t a_ends a_there a_one a_two a_what a_piece a_kinds a_group a_many a_pieceOf a_numberOf a_ups a_jointUp a_partner a_beyonds a_gone thrown made tree items one two pieces joints nodes i3_1 x2 _ sz) h rfl rfl rfl rfl rfl rfl (Nat.le_of_ble_eq_true rfl) ⟨Nat.zero_le _, Nat.zero_le _⟩ (q0 := 0) rfl rfl (fun r_5 h => ?_)
      refine A_if_eq K d_Model_hasPoint 16 31 (pc' := 29) rfl rfl rfl (fun q => ?_) (fun q => ?_)
      · replace h := h.1 q
        refine A_iinc K d_Model_hasPoint 19 3 (pc' := 34) (v := i3_1 + 1) (lv' := [(3, .int (i3_1 + 1)), (0, .ref a_t), (1, .int x1), (2, .int x2)]) rfl rfl rfl rfl (by decide) rfl ?_
        refine A_goto K d_Model_hasPoint 20 (pc' := 2) rfl rfl ?_
        refine A_lv [1, 2, 3, 0] rfl ?_
        exact ih_3 _ h
      · replace h := h.2 q
        refine A_iconst K d_Model_hasPoint 17 (pc' := 30) (v := 1) rfl rfl (by decide) ?_
        exact hend 18 _ _ _ rfl (Or.inr rfl) h
theorem met_Model_hasPoint (l : Launch) (D : va_G) (cI cJ cZ : ClassId) (a_t a_ends a_there a_one a_two a_what a_piece a_kinds a_group a_many a_pieceOf a_numberOf a_ups a_jointUp a_partner a_beyonds a_gone : Nat) (thrown : Int32) (made : Int32) (tree : Int32) (items : Int32) (one : Nat → Int32) (two : Nat → Int32) (piece : Nat → Int32) (pieces : Int32) (joints : Int32) (nodes : Int32) (x1 : Int32) (x2 : Int32) (post : Int32 → Prop) (sz : Nat) : Met l y_Model_hasPoint (Cond.code y_Model_hasPoint c_Model_hasPoint 4 (Option.some Jvm.ClassFile.FieldType.boolean) :: GW) { frames := 1, cells := 0, slots := 0, locals := 22 } (va_Pc [.ref a_t, .int x1, .int x2] (fun U => sk_P D (tyl cI cJ cZ) (w_Model_hasPoint cI cJ cZ a_t a_ends a_there a_one a_two a_what a_piece a_kinds a_group a_many a_pieceOf a_numberOf a_ups a_jointUp a_partner a_beyonds a_gone thrown made tree items one two piece pieces joints nodes) sz U ∧ wp_Model_hasPoint items one two piece x1 x2 post)) (va_Qi (fun (r : Int32) (_ : Unit) => post r) (fun _ t => sk_B D (tyl cI cJ cZ) (w_Model_hasPoint cI cJ cZ a_t a_ends a_there a_one a_two a_what a_piece a_kinds a_group a_many a_pieceOf a_numberOf a_ups a_jointUp a_partner a_beyonds a_gone thrown made tree items one two piece pieces joints nodes) (fun _ => True) t) (fun q => sz ≤ q)) 0 0 (fun q => sz ≤ q) :=
  sk_introR (by decide) (Nat.le_of_ble_eq_true rfl) (fun p e s m below meth c K hr _ h => bd_Model_hasPoint K (Nat.le_refl _) (Nat.le_refl _) (fun ti pc r  lv hd hb hp => A_zret K d_Model_hasPoint ti hr (post := (fun (r : Int32) (_ : Unit) => post r)) (wl := fun (_ : Unit) => w_Model_hasPoint cI cJ cZ a_t a_ends a_there a_one a_two a_what a_piece a_kinds a_group a_many a_pieceOf a_numberOf a_ups a_jointUp a_partner a_beyonds a_gone thrown made tree items one two piece pieces joints nodes) () hd hb hp) h)
