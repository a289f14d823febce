abbrev c_Model_move : ByteArray := prog_7_method_23_code
abbrev y_Model_move : MethodName := { cls := "SkeletonTreeModel", name := "move", desc := "(IIII)V" }
abbrev c_Model_split : ByteArray := prog_7_method_22_code
abbrev y_Model_split : MethodName := { cls := "SkeletonTreeModel", name := "split", desc := "(I)Z" }
abbrev c_Model_pointsOf : ByteArray := prog_7_method_24_code
abbrev y_Model_pointsOf : MethodName := { cls := "SkeletonTreeModel", name := "pointsOf", desc := "(I)I" }
abbrev c_Model_itemOf : ByteArray := prog_7_method_25_code
abbrev y_Model_itemOf : MethodName := { cls := "SkeletonTreeModel", name := "itemOf", desc := "(II)I" }
abbrev c_Model_putTogether : ByteArray := prog_7_method_26_code
abbrev y_Model_putTogether : MethodName := { cls := "SkeletonTreeModel", name := "putTogether", desc := "()V" }
abbrev c_Model_beyond : ByteArray := prog_7_method_28_code
abbrev y_Model_beyond : MethodName := { cls := "SkeletonTreeModel", name := "beyond", desc := "(I)I" }
abbrev c_Model_lookBeyond : ByteArray := prog_7_method_27_code
abbrev y_Model_lookBeyond : MethodName := { cls := "SkeletonTreeModel", name := "lookBeyond", desc := "()V" }
abbrev c_Model_begin : ByteArray := prog_7_method_29_code
abbrev y_Model_begin : MethodName := { cls := "SkeletonTreeModel", name := "begin", desc := "(III)V" }
abbrev c_Model_nextOf : ByteArray := prog_7_method_30_code
abbrev y_Model_nextOf : MethodName := { cls := "SkeletonTreeModel", name := "nextOf", desc := "(I)I" }
abbrev c_Model_number : ByteArray := prog_7_method_31_code
abbrev y_Model_number : MethodName := { cls := "SkeletonTreeModel", name := "number", desc := "(I)V" }
abbrev c_Model_build : ByteArray := prog_7_method_32_code
abbrev y_Model_build : MethodName := { cls := "SkeletonTreeModel", name := "build", desc := "()I" }
theorem g_624 : (Jvm.Cond.fieldLink "SkeletonTreeModel" (130 : Nat) "SkeletonTreeModel" "pieces" "I") ∈ GW := gw_of 624 (by decide +kernel) (by decide +kernel)
theorem g_625 : (Jvm.Cond.fieldLink "SkeletonTreeModel" (133 : Nat) "SkeletonTreeModel" "joints" "I") ∈ GW := gw_of 625 (by decide +kernel) (by decide +kernel)
theorem g_739 : (Jvm.Cond.code ({ cls := "SkeletonTreeModel", name := "add", desc := "(IIII)V" } : Jvm.MethodName) prog_7_method_14_code (5 : Nat) (Option.none : Option Jvm.ClassFile.FieldType)) ∈ GW := gw_of 739 (by decide +kernel) (by decide +kernel)
theorem g_736 : (Jvm.Cond.methodLink "SkeletonTreeModel" (136 : Nat) ({ cls := "SkeletonTreeModel", name := "add", desc := "(IIII)V" } : Jvm.MethodName)) ∈ GW := gw_of 736 (by decide +kernel) (by decide +kernel)
theorem g_738 : (Jvm.Cond.instanceMethod ({ cls := "SkeletonTreeModel", name := "add", desc := "(IIII)V" } : Jvm.MethodName)) ∈ GW := gw_of 738 (by decide +kernel) (by decide +kernel)
theorem g_26 : (Jvm.Cond.selects "SkeletonTreeModel" ({ cls := "SkeletonTreeModel", name := "add", desc := "(IIII)V" } : Jvm.MethodName) ({ cls := "SkeletonTreeModel", name := "add", desc := "(IIII)V" } : Jvm.MethodName)) ∈ GW := gw_of 26 (by decide +kernel) (by decide +kernel)
theorem g_747 : (Jvm.Cond.code ({ cls := "SkeletonTreeModel", name := "hasPoint", desc := "(II)Z" } : Jvm.MethodName) prog_7_method_21_code (4 : Nat) (Option.some Jvm.ClassFile.FieldType.boolean)) ∈ GW := gw_of 747 (by decide +kernel) (by decide +kernel)
theorem g_744 : (Jvm.Cond.methodLink "SkeletonTreeModel" (120 : Nat) ({ cls := "SkeletonTreeModel", name := "hasPoint", desc := "(II)Z" } : Jvm.MethodName)) ∈ GW := gw_of 744 (by decide +kernel) (by decide +kernel)
theorem g_746 : (Jvm.Cond.instanceMethod ({ cls := "SkeletonTreeModel", name := "hasPoint", desc := "(II)Z" } : Jvm.MethodName)) ∈ GW := gw_of 746 (by decide +kernel) (by decide +kernel)
theorem g_28 : (Jvm.Cond.selects "SkeletonTreeModel" ({ cls := "SkeletonTreeModel", name := "hasPoint", desc := "(II)Z" } : Jvm.MethodName) ({ cls := "SkeletonTreeModel", name := "hasPoint", desc := "(II)Z" } : Jvm.MethodName)) ∈ GW := gw_of 28 (by decide +kernel) (by decide +kernel)
theorem g_755 : (Jvm.Cond.code ({ cls := "SkeletonTreeModel", name := "partOf", desc := "(III)I" } : Jvm.MethodName) prog_7_method_20_code (7 : Nat) (Option.some Jvm.ClassFile.FieldType.int)) ∈ GW := gw_of 755 (by decide +kernel) (by decide +kernel)
theorem g_752 : (Jvm.Cond.methodLink "SkeletonTreeModel" (123 : Nat) ({ cls := "SkeletonTreeModel", name := "partOf", desc := "(III)I" } : Jvm.MethodName)) ∈ GW := gw_of 752 (by decide +kernel) (by decide +kernel)
theorem g_754 : (Jvm.Cond.instanceMethod ({ cls := "SkeletonTreeModel", name := "partOf", desc := "(III)I" } : Jvm.MethodName)) ∈ GW := gw_of 754 (by decide +kernel) (by decide +kernel)
theorem g_30 : (Jvm.Cond.selects "SkeletonTreeModel" ({ cls := "SkeletonTreeModel", name := "partOf", desc := "(III)I" } : Jvm.MethodName) ({ cls := "SkeletonTreeModel", name := "partOf", desc := "(III)I" } : Jvm.MethodName)) ∈ GW := gw_of 30 (by decide +kernel) (by decide +kernel)
theorem g_775 : (Jvm.Cond.code ({ cls := "SkeletonTreeModel", name := "move", desc := "(IIII)V" } : Jvm.MethodName) prog_7_method_23_code (9 : Nat) (Option.none : Option Jvm.ClassFile.FieldType)) ∈ GW := gw_of 775 (by decide +kernel) (by decide +kernel)
theorem g_772 : (Jvm.Cond.methodLink "SkeletonTreeModel" (126 : Nat) ({ cls := "SkeletonTreeModel", name := "move", desc := "(IIII)V" } : Jvm.MethodName)) ∈ GW := gw_of 772 (by decide +kernel) (by decide +kernel)
theorem g_774 : (Jvm.Cond.instanceMethod ({ cls := "SkeletonTreeModel", name := "move", desc := "(IIII)V" } : Jvm.MethodName)) ∈ GW := gw_of 774 (by decide +kernel) (by decide +kernel)
theorem g_35 : (Jvm.Cond.selects "SkeletonTreeModel" ({ cls := "SkeletonTreeModel", name := "move", desc := "(IIII)V" } : Jvm.MethodName) ({ cls := "SkeletonTreeModel", name := "move", desc := "(IIII)V" } : Jvm.MethodName)) ∈ GW := gw_of 35 (by decide +kernel) (by decide +kernel)
theorem g_787 : (Jvm.Cond.code ({ cls := "SkeletonTreeModel", name := "itemOf", desc := "(II)I" } : Jvm.MethodName) prog_7_method_25_code (4 : Nat) (Option.some Jvm.ClassFile.FieldType.int)) ∈ GW := gw_of 787 (by decide +kernel) (by decide +kernel)
theorem g_784 : (Jvm.Cond.methodLink "SkeletonTreeModel" (139 : Nat) ({ cls := "SkeletonTreeModel", name := "itemOf", desc := "(II)I" } : Jvm.MethodName)) ∈ GW := gw_of 784 (by decide +kernel) (by decide +kernel)
theorem g_786 : (Jvm.Cond.instanceMethod ({ cls := "SkeletonTreeModel", name := "itemOf", desc := "(II)I" } : Jvm.MethodName)) ∈ GW := gw_of 786 (by decide +kernel) (by decide +kernel)
theorem g_38 : (Jvm.Cond.selects "SkeletonTreeModel" ({ cls := "SkeletonTreeModel", name := "itemOf", desc := "(II)I" } : Jvm.MethodName) ({ cls := "SkeletonTreeModel", name := "itemOf", desc := "(II)I" } : Jvm.MethodName)) ∈ GW := gw_of 38 (by decide +kernel) (by decide +kernel)
theorem g_626 : (Jvm.Cond.fieldLink "SkeletonTreeModel" (29 : Nat) "SkeletonTreeModel" "kinds" "[I") ∈ GW := gw_of 626 (by decide +kernel) (by decide +kernel)
theorem g_634 : (Jvm.Cond.fieldLink "SkeletonTreeModel" (50 : Nat) "SkeletonTreeModel" "partner" "[I") ∈ GW := gw_of 634 (by decide +kernel) (by decide +kernel)
theorem g_635 : (Jvm.Cond.fieldLink "SkeletonTreeModel" (53 : Nat) "SkeletonTreeModel" "beyonds" "[I") ∈ GW := gw_of 635 (by decide +kernel) (by decide +kernel)
theorem g_795 : (Jvm.Cond.code ({ cls := "SkeletonTreeModel", name := "beyond", desc := "(I)I" } : Jvm.MethodName) prog_7_method_28_code (2 : Nat) (Option.some Jvm.ClassFile.FieldType.int)) ∈ GW := gw_of 795 (by decide +kernel) (by decide +kernel)
theorem g_792 : (Jvm.Cond.methodLink "SkeletonTreeModel" (143 : Nat) ({ cls := "SkeletonTreeModel", name := "beyond", desc := "(I)I" } : Jvm.MethodName)) ∈ GW := gw_of 792 (by decide +kernel) (by decide +kernel)
theorem g_794 : (Jvm.Cond.instanceMethod ({ cls := "SkeletonTreeModel", name := "beyond", desc := "(I)I" } : Jvm.MethodName)) ∈ GW := gw_of 794 (by decide +kernel) (by decide +kernel)
theorem g_40 : (Jvm.Cond.selects "SkeletonTreeModel" ({ cls := "SkeletonTreeModel", name := "beyond", desc := "(I)I" } : Jvm.MethodName) ({ cls := "SkeletonTreeModel", name := "beyond", desc := "(I)I" } : Jvm.MethodName)) ∈ GW := gw_of 40 (by decide +kernel) (by decide +kernel)
theorem g_630 : (Jvm.Cond.fieldLink "SkeletonTreeModel" (38 : Nat) "SkeletonTreeModel" "pieceOf" "[I") ∈ GW := gw_of 630 (by decide +kernel) (by decide +kernel)
theorem g_629 : (Jvm.Cond.fieldLink "SkeletonTreeModel" (146 : Nat) "SkeletonTreeModel" "nodes" "I") ∈ GW := gw_of 629 (by decide +kernel) (by decide +kernel)
theorem g_631 : (Jvm.Cond.fieldLink "SkeletonTreeModel" (41 : Nat) "SkeletonTreeModel" "numberOf" "[I") ∈ GW := gw_of 631 (by decide +kernel) (by decide +kernel)
theorem g_632 : (Jvm.Cond.fieldLink "SkeletonTreeModel" (44 : Nat) "SkeletonTreeModel" "ups" "[I") ∈ GW := gw_of 632 (by decide +kernel) (by decide +kernel)
theorem g_633 : (Jvm.Cond.fieldLink "SkeletonTreeModel" (47 : Nat) "SkeletonTreeModel" "jointUp" "[I") ∈ GW := gw_of 633 (by decide +kernel) (by decide +kernel)
theorem g_636 : (Jvm.Cond.fieldLink "SkeletonTreeModel" (56 : Nat) "SkeletonTreeModel" "gone" "[I") ∈ GW := gw_of 636 (by decide +kernel) (by decide +kernel)
theorem g_803 : (Jvm.Cond.code ({ cls := "SkeletonTreeModel", name := "begin", desc := "(III)V" } : Jvm.MethodName) prog_7_method_29_code (4 : Nat) (Option.none : Option Jvm.ClassFile.FieldType)) ∈ GW := gw_of 803 (by decide +kernel) (by decide +kernel)
theorem g_800 : (Jvm.Cond.methodLink "SkeletonTreeModel" (149 : Nat) ({ cls := "SkeletonTreeModel", name := "begin", desc := "(III)V" } : Jvm.MethodName)) ∈ GW := gw_of 800 (by decide +kernel) (by decide +kernel)
theorem g_802 : (Jvm.Cond.instanceMethod ({ cls := "SkeletonTreeModel", name := "begin", desc := "(III)V" } : Jvm.MethodName)) ∈ GW := gw_of 802 (by decide +kernel) (by decide +kernel)
theorem g_42 : (Jvm.Cond.selects "SkeletonTreeModel" ({ cls := "SkeletonTreeModel", name := "begin", desc := "(III)V" } : Jvm.MethodName) ({ cls := "SkeletonTreeModel", name := "begin", desc := "(III)V" } : Jvm.MethodName)) ∈ GW := gw_of 42 (by decide +kernel) (by decide +kernel)
theorem g_807 : (Jvm.Cond.code ({ cls := "SkeletonTreeModel", name := "nextOf", desc := "(I)I" } : Jvm.MethodName) prog_7_method_30_code (5 : Nat) (Option.some Jvm.ClassFile.FieldType.int)) ∈ GW := gw_of 807 (by decide +kernel) (by decide +kernel)
theorem g_804 : (Jvm.Cond.methodLink "SkeletonTreeModel" (153 : Nat) ({ cls := "SkeletonTreeModel", name := "nextOf", desc := "(I)I" } : Jvm.MethodName)) ∈ GW := gw_of 804 (by decide +kernel) (by decide +kernel)
theorem g_806 : (Jvm.Cond.instanceMethod ({ cls := "SkeletonTreeModel", name := "nextOf", desc := "(I)I" } : Jvm.MethodName)) ∈ GW := gw_of 806 (by decide +kernel) (by decide +kernel)
theorem g_43 : (Jvm.Cond.selects "SkeletonTreeModel" ({ cls := "SkeletonTreeModel", name := "nextOf", desc := "(I)I" } : Jvm.MethodName) ({ cls := "SkeletonTreeModel", name := "nextOf", desc := "(I)I" } : Jvm.MethodName)) ∈ GW := gw_of 43 (by decide +kernel) (by decide +kernel)
theorem g_718 : (Jvm.Cond.code ({ cls := "SkeletonTreeModel", name := "isFit", desc := "()Z" } : Jvm.MethodName) prog_7_method_13_code (3 : Nat) (Option.some Jvm.ClassFile.FieldType.boolean)) ∈ GW := gw_of 718 (by decide +kernel) (by decide +kernel)
theorem g_715 : (Jvm.Cond.methodLink "SkeletonTreeModel" (156 : Nat) ({ cls := "SkeletonTreeModel", name := "isFit", desc := "()Z" } : Jvm.MethodName)) ∈ GW := gw_of 715 (by decide +kernel) (by decide +kernel)
theorem g_717 : (Jvm.Cond.instanceMethod ({ cls := "SkeletonTreeModel", name := "isFit", desc := "()Z" } : Jvm.MethodName)) ∈ GW := gw_of 717 (by decide +kernel) (by decide +kernel)
theorem g_21 : (Jvm.Cond.selects "SkeletonTreeModel" ({ cls := "SkeletonTreeModel", name := "isFit", desc := "()Z" } : Jvm.MethodName) ({ cls := "SkeletonTreeModel", name := "isFit", desc := "()Z" } : Jvm.MethodName)) ∈ GW := gw_of 21 (by decide +kernel) (by decide +kernel)
theorem g_743 : (Jvm.Cond.code ({ cls := "SkeletonTreeModel", name := "split", desc := "(I)Z" } : Jvm.MethodName) prog_7_method_22_code (5 : Nat) (Option.some Jvm.ClassFile.FieldType.boolean)) ∈ GW := gw_of 743 (by decide +kernel) (by decide +kernel)
theorem g_740 : (Jvm.Cond.methodLink "SkeletonTreeModel" (160 : Nat) ({ cls := "SkeletonTreeModel", name := "split", desc := "(I)Z" } : Jvm.MethodName)) ∈ GW := gw_of 740 (by decide +kernel) (by decide +kernel)
theorem g_742 : (Jvm.Cond.instanceMethod ({ cls := "SkeletonTreeModel", name := "split", desc := "(I)Z" } : Jvm.MethodName)) ∈ GW := gw_of 742 (by decide +kernel) (by decide +kernel)
theorem g_27 : (Jvm.Cond.selects "SkeletonTreeModel" ({ cls := "SkeletonTreeModel", name := "split", desc := "(I)Z" } : Jvm.MethodName) ({ cls := "SkeletonTreeModel", name := "split", desc := "(I)Z" } : Jvm.MethodName)) ∈ GW := gw_of 27 (by decide +kernel) (by decide +kernel)
theorem g_779 : (Jvm.Cond.code ({ cls := "SkeletonTreeModel", name := "pointsOf", desc := "(I)I" } : Jvm.MethodName) prog_7_method_24_code (4 : Nat) (Option.some Jvm.ClassFile.FieldType.int)) ∈ GW := gw_of 779 (by decide +kernel) (by decide +kernel)
theorem g_776 : (Jvm.Cond.methodLink "SkeletonTreeModel" (163 : Nat) ({ cls := "SkeletonTreeModel", name := "pointsOf", desc := "(I)I" } : Jvm.MethodName)) ∈ GW := gw_of 776 (by decide +kernel) (by decide +kernel)
theorem g_778 : (Jvm.Cond.instanceMethod ({ cls := "SkeletonTreeModel", name := "pointsOf", desc := "(I)I" } : Jvm.MethodName)) ∈ GW := gw_of 778 (by decide +kernel) (by decide +kernel)
theorem g_36 : (Jvm.Cond.selects "SkeletonTreeModel" ({ cls := "SkeletonTreeModel", name := "pointsOf", desc := "(I)I" } : Jvm.MethodName) ({ cls := "SkeletonTreeModel", name := "pointsOf", desc := "(I)I" } : Jvm.MethodName)) ∈ GW := gw_of 36 (by decide +kernel) (by decide +kernel)
theorem g_783 : (Jvm.Cond.code ({ cls := "SkeletonTreeModel", name := "putTogether", desc := "()V" } : Jvm.MethodName) prog_7_method_26_code (7 : Nat) (Option.none : Option Jvm.ClassFile.FieldType)) ∈ GW := gw_of 783 (by decide +kernel) (by decide +kernel)
theorem g_780 : (Jvm.Cond.methodLink "SkeletonTreeModel" (166 : Nat) ({ cls := "SkeletonTreeModel", name := "putTogether", desc := "()V" } : Jvm.MethodName)) ∈ GW := gw_of 780 (by decide +kernel) (by decide +kernel)
theorem g_782 : (Jvm.Cond.instanceMethod ({ cls := "SkeletonTreeModel", name := "putTogether", desc := "()V" } : Jvm.MethodName)) ∈ GW := gw_of 782 (by decide +kernel) (by decide +kernel)
theorem g_37 : (Jvm.Cond.selects "SkeletonTreeModel" ({ cls := "SkeletonTreeModel", name := "putTogether", desc := "()V" } : Jvm.MethodName) ({ cls := "SkeletonTreeModel", name := "putTogether", desc := "()V" } : Jvm.MethodName)) ∈ GW := gw_of 37 (by decide +kernel) (by decide +kernel)
theorem g_791 : (Jvm.Cond.code ({ cls := "SkeletonTreeModel", name := "lookBeyond", desc := "()V" } : Jvm.MethodName) prog_7_method_27_code (4 : Nat) (Option.none : Option Jvm.ClassFile.FieldType)) ∈ GW := gw_of 791 (by decide +kernel) (by decide +kernel)
theorem g_788 : (Jvm.Cond.methodLink "SkeletonTreeModel" (169 : Nat) ({ cls := "SkeletonTreeModel", name := "lookBeyond", desc := "()V" } : Jvm.MethodName)) ∈ GW := gw_of 788 (by decide +kernel) (by decide +kernel)
theorem g_790 : (Jvm.Cond.instanceMethod ({ cls := "SkeletonTreeModel", name := "lookBeyond", desc := "()V" } : Jvm.MethodName)) ∈ GW := gw_of 790 (by decide +kernel) (by decide +kernel)
theorem g_39 : (Jvm.Cond.selects "SkeletonTreeModel" ({ cls := "SkeletonTreeModel", name := "lookBeyond", desc := "()V" } : Jvm.MethodName) ({ cls := "SkeletonTreeModel", name := "lookBeyond", desc := "()V" } : Jvm.MethodName)) ∈ GW := gw_of 39 (by decide +kernel) (by decide +kernel)
theorem g_799 : (Jvm.Cond.code ({ cls := "SkeletonTreeModel", name := "number", desc := "(I)V" } : Jvm.MethodName) prog_7_method_31_code (4 : Nat) (Option.none : Option Jvm.ClassFile.FieldType)) ∈ GW := gw_of 799 (by decide +kernel) (by decide +kernel)
theorem g_796 : (Jvm.Cond.methodLink "SkeletonTreeModel" (172 : Nat) ({ cls := "SkeletonTreeModel", name := "number", desc := "(I)V" } : Jvm.MethodName)) ∈ GW := gw_of 796 (by decide +kernel) (by decide +kernel)
theorem g_798 : (Jvm.Cond.instanceMethod ({ cls := "SkeletonTreeModel", name := "number", desc := "(I)V" } : Jvm.MethodName)) ∈ GW := gw_of 798 (by decide +kernel) (by decide +kernel)
theorem g_41 : (Jvm.Cond.selects "SkeletonTreeModel" ({ cls := "SkeletonTreeModel", name := "number", desc := "(I)V" } : Jvm.MethodName) ({ cls := "SkeletonTreeModel", name := "number", desc := "(I)V" } : Jvm.MethodName)) ∈ GW := gw_of 41 (by decide +kernel) (by decide +kernel)
theorem fl_Model_130 : sk_Fl "SkeletonTreeModel" 130 5 10 := ⟨_, _, _, rfl, in_Model, by decide, g_624⟩
theorem fl_Model_133 : sk_Fl "SkeletonTreeModel" 133 5 11 := ⟨_, _, _, rfl, in_Model, by decide, g_625⟩
theorem fp_Model_133 : sk_Fp "SkeletonTreeModel" 133 5 11 .int := ⟨_, _, _, t_Model, rfl, in_Model, by decide, g_625, ty_Model, nm_Model, rfl, by decide +kernel⟩
theorem fp_Model_130 : sk_Fp "SkeletonTreeModel" 130 5 10 .int := ⟨_, _, _, t_Model, rfl, in_Model, by decide, g_624, ty_Model, nm_Model, rfl, by decide +kernel⟩
theorem fl_Model_29 : sk_Fl "SkeletonTreeModel" 29 5 12 := ⟨_, _, _, rfl, in_Model, by decide, g_626⟩
theorem fl_Model_50 : sk_Fl "SkeletonTreeModel" 50 5 20 := ⟨_, _, _, rfl, in_Model, by decide, g_634⟩
theorem fl_Model_53 : sk_Fl "SkeletonTreeModel" 53 5 21 := ⟨_, _, _, rfl, in_Model, by decide, g_635⟩
theorem fl_Model_38 : sk_Fl "SkeletonTreeModel" 38 5 16 := ⟨_, _, _, rfl, in_Model, by decide, g_630⟩
theorem fl_Model_146 : sk_Fl "SkeletonTreeModel" 146 5 15 := ⟨_, _, _, rfl, in_Model, by decide, g_629⟩
theorem fl_Model_41 : sk_Fl "SkeletonTreeModel" 41 5 17 := ⟨_, _, _, rfl, in_Model, by decide, g_631⟩
theorem fl_Model_44 : sk_Fl "SkeletonTreeModel" 44 5 18 := ⟨_, _, _, rfl, in_Model, by decide, g_632⟩
theorem fl_Model_47 : sk_Fl "SkeletonTreeModel" 47 5 19 := ⟨_, _, _, rfl, in_Model, by decide, g_633⟩
theorem fl_Model_56 : sk_Fl "SkeletonTreeModel" 56 5 22 := ⟨_, _, _, rfl, in_Model, by decide, g_636⟩
theorem fp_Model_146 : sk_Fp "SkeletonTreeModel" 146 5 15 .int := ⟨_, _, _, t_Model, rfl, in_Model, by decide, g_629, ty_Model, nm_Model, rfl, by decide +kernel⟩
theorem fl_Model_74 : sk_Fl "SkeletonTreeModel" 74 5 4 := ⟨_, _, _, rfl, in_Model, by decide, g_618⟩
theorem v_Model_136 : sk_V "SkeletonTreeModel" 136 y_Model_add c_Model_add 5 (Option.none : Option Jvm.ClassFile.FieldType) 4 "SkeletonTreeModel" := ⟨g_739, g_736, g_738, g_26, g_52, by decide +kernel⟩
theorem v_Model_120 : sk_V "SkeletonTreeModel" 120 y_Model_hasPoint c_Model_hasPoint 4 (Option.some Jvm.ClassFile.FieldType.boolean) 2 "SkeletonTreeModel" := ⟨g_747, g_744, g_746, g_28, g_52, by decide +kernel⟩
theorem v_Model_123 : sk_V "SkeletonTreeModel" 123 y_Model_partOf c_Model_partOf 7 (Option.some Jvm.ClassFile.FieldType.int) 3 "SkeletonTreeModel" := ⟨g_755, g_752, g_754, g_30, g_52, by decide +kernel⟩
theorem v_Model_126 : sk_V "SkeletonTreeModel" 126 y_Model_move c_Model_move 9 (Option.none : Option Jvm.ClassFile.FieldType) 4 "SkeletonTreeModel" := ⟨g_775, g_772, g_774, g_35, g_52, by decide +kernel⟩
theorem v_Model_139 : sk_V "SkeletonTreeModel" 139 y_Model_itemOf c_Model_itemOf 4 (Option.some Jvm.ClassFile.FieldType.int) 2 "SkeletonTreeModel" := ⟨g_787, g_784, g_786, g_38, g_52, by decide +kernel⟩
theorem v_Model_143 : sk_V "SkeletonTreeModel" 143 y_Model_beyond c_Model_beyond 2 (Option.some Jvm.ClassFile.FieldType.int) 1 "SkeletonTreeModel" := ⟨g_795, g_792, g_794, g_40, g_52, by decide +kernel⟩
theorem v_Model_149 : sk_V "SkeletonTreeModel" 149 y_Model_begin c_Model_begin 4 (Option.none : Option Jvm.ClassFile.FieldType) 3 "SkeletonTreeModel" := ⟨g_803, g_800, g_802, g_42, g_52, by decide +kernel⟩
theorem v_Model_153 : sk_V "SkeletonTreeModel" 153 y_Model_nextOf c_Model_nextOf 5 (Option.some Jvm.ClassFile.FieldType.int) 1 "SkeletonTreeModel" := ⟨g_807, g_804, g_806, g_43, g_52, by decide +kernel⟩
theorem v_Model_156 : sk_V "SkeletonTreeModel" 156 y_Model_isFit c_Model_isFit 3 (Option.some Jvm.ClassFile.FieldType.boolean) 0 "SkeletonTreeModel" := ⟨g_718, g_715, g_717, g_21, g_52, by decide +kernel⟩
theorem v_Model_160 : sk_V "SkeletonTreeModel" 160 y_Model_split c_Model_split 5 (Option.some Jvm.ClassFile.FieldType.boolean) 1 "SkeletonTreeModel" := ⟨g_743, g_740, g_742, g_27, g_52, by decide +kernel⟩
theorem v_Model_163 : sk_V "SkeletonTreeModel" 163 y_Model_pointsOf c_Model_pointsOf 4 (Option.some Jvm.ClassFile.FieldType.int) 1 "SkeletonTreeModel" := ⟨g_779, g_776, g_778, g_36, g_52, by decide +kernel⟩
theorem v_Model_166 : sk_V "SkeletonTreeModel" 166 y_Model_putTogether c_Model_putTogether 7 (Option.none : Option Jvm.ClassFile.FieldType) 0 "SkeletonTreeModel" := ⟨g_783, g_780, g_782, g_37, g_52, by decide +kernel⟩
theorem v_Model_169 : sk_V "SkeletonTreeModel" 169 y_Model_lookBeyond c_Model_lookBeyond 4 (Option.none : Option Jvm.ClassFile.FieldType) 0 "SkeletonTreeModel" := ⟨g_791, g_788, g_790, g_39, g_52, by decide +kernel⟩
theorem v_Model_172 : sk_V "SkeletonTreeModel" 172 y_Model_number c_Model_number 4 (Option.none : Option Jvm.ClassFile.FieldType) 1 "SkeletonTreeModel" := ⟨g_799, g_796, g_798, g_41, g_52, by decide +kernel⟩
/-! SkeletonTreeModel.move(IIII)V -/
def t_Model_move : List (Nat × Instr × Nat) := [(0, .aload_n 0, 1), (1, .getfield 98, 3), (4, .istore 5, 2), (6, .iconst 0, 1), (7, .istore 6, 2), (9, .iconst 0, 1), (10, .istore 7, 2), (12, .iload 7, 2), (14, .iload 5, 2), (16, .if_icmp .ge 86, 3), (19, .aload_n 0, 1), (20, .getfield 26, 3), (23, .iload 7, 2), (25, .iaload, 1), (26, .iload_n 1, 1), (27, .if_icmp .ne 47, 3), (30, .iload 4, 2), (32, .bipush 40, 2), (34, .if_icmp .ne 23, 3), (37, .iload 6, 2), (39, .iconst 2, 1), (40, .if_icmp .ge 34, 3), (43, .aload_n 0, 1), (44, .iload 7, 2), (46, .iload_n 2, 1), (47, .iload_n 3, 1), (48, .invokevirtual 105, 3), (51, .ifCond .eq 23, 3), (54, .goto 16, 3), (57, .aload_n 0, 1), (58, .iload 7, 2), (60, .iload_n 2, 1), (61, .iload_n 3, 1), (62, .invokevirtual 109, 3), (65, .iload 4, 2), (67, .if_icmp .ne 7, 3), (70, .iconst 1, 1), (71, .goto 4, 3), (74, .iconst 0, 1), (75, .istore 8, 2), (77, .iload 8, 2), (79, .ifCond .eq 17, 3), (82, .aload_n 0, 1), (83, .getfield 26, 3), (86, .iload 7, 2), (88, .aload_n 0, 1), (89, .getfield 130, 3), (92, .iastore, 1), (93, .iinc 6 1, 3), (96, .iinc 7 1, 3), (99, .goto (-87), 3), (102, .aload_n 0, 1), (103, .iload_n 2, 1), (104, .iload_n 3, 1), (105, .iconst (-1), 1), (106, .aload_n 0, 1), (107, .getfield 133, 3), (110, .isub, 1), (111, .iload_n 1, 1), (112, .invokevirtual 136, 3), (115, .aload_n 0, 1), (116, .iload_n 2, 1), (117, .iload_n 3, 1), (118, .iconst (-1), 1), (119, .aload_n 0, 1), (120, .getfield 133, 3), (123, .isub, 1), (124, .aload_n 0, 1), (125, .getfield 130, 3), (128, .invokevirtual 136, 3), (131, .aload_n 0, 1), (132, .dup, 1), (133, .getfield 133, 3), (136, .iconst 1, 1), (137, .iadd, 1), (138, .putfield 133, 3), (141, .aload_n 0, 1), (142, .dup, 1), (143, .getfield 130, 3), (146, .iconst 1, 1), (147, .iadd, 1), (148, .putfield 130, 3), (151, .return_, 1)]
set_option maxRecDepth 100000 in
theorem d_Model_move : sk_T c_Model_move t_Model_move := by unfold sk_T t_Model_move; decide +kernel
def w_Model_move (cI cJ cZ : ClassId) (a_t a_ends a_there a_one a_two a_what a_piece a_kinds a_group a_many a_pieceOf a_numberOf a_ups a_jointUp a_partner a_beyonds a_gone : Nat) (thrown : Int32) (made : Int32) (tree : Int32) (items : Int32) (one : Nat → Int32) (two : Nat → Int32) (what : Nat → Int32) (piece : Nat → Int32) (pieces : Int32) (joints : Int32) (group : Nat → Int32) (nodes : Int32) : va_W := [(a_t, .inr (5, [.int thrown, .int made, .ref a_ends, .ref a_there, .int tree, .int items, .ref a_one, .ref a_two, .ref a_what, .ref a_piece, .int pieces, .int joints, .ref a_kinds, .ref a_group, .ref a_many, .int nodes, .ref a_pieceOf, .ref a_numberOf, .ref a_ups, .ref a_jointUp, .ref a_partner, .ref a_beyonds, .ref a_gone])), (a_one, .inl (cI, 320, .inl one)), (a_two, .inl (cI, 320, .inl two)), (a_what, .inl (cI, 320, .inl what)), (a_piece, .inl (cI, 320, .inl piece)), (a_group, .inl (cI, 40, .inl group))]
def wp_Model_move  (items : Int32) (one : Nat → Int32) (two : Nat → Int32) (what : Nat → Int32) (piece : Nat → Int32) (pieces : Int32) (joints : Int32) (group : Nat → Int32) (x1 : Int32) (x2 : Int32) (x3 : Int32) (x4 : Int32) (post : Int32 → (Nat → Int32) → (Nat → Int32) → (Nat → Int32) → (Nat → Int32) → Int32 → Int32 → Prop) : Prop :=
  ∃ n, sL3 (fun (K_4 : Int32 → Int32 → (Nat → Int32) → Prop) (i6_1 : Int32) (i7_2 : Int32) (piece_3 : Nat → Int32) => (items ≤ i7_2 → wp_Model_add items one two what piece_3 x2 x3 ((-1) - joints) x1 (fun items_7 one_8 two_9 what_10 piece_11 => wp_Model_add items_7 one_8 two_9 what_10 piece_11 x2 x3 ((-1) - joints) pieces (fun items_12 one_13 two_14 what_15 piece_16 => post items_12 one_13 two_14 what_15 piece_16 (pieces + 1) (joints + 1)))) ∧ (¬ items ≤ i7_2 → vp_in i7_2 320 ∧ jn1 (fun (z_17 : Int32) => (z_17 = 0 → K_4 i6_1 (i7_2 + 1) piece_3) ∧ (¬ z_17 = 0 → vp_in i7_2 320 ∧ ∀ piece_22 : Nat → Int32, piece_22 = upd piece_3 (ix i7_2) pieces → K_4 (i6_1 + 1) (i7_2 + 1) piece_22)) (fun (J_18 : Int32 → Prop) => (¬ (piece_3 (ix i7_2)) = x1 → J_18 0) ∧ ((piece_3 (ix i7_2)) = x1 → (¬ x4 = 40 → wp_Model_groupOf one two group i7_2 x2 x3 (fun r_20 => (¬ r_20 = x4 → J_18 0) ∧ (r_20 = x4 → J_18 1))) ∧ (x4 = 40 → (2 ≤ i6_1 → J_18 0) ∧ (¬ 2 ≤ i6_1 → wp_Model_isBetween one two i7_2 x2 x3 (fun r_21 => (r_21 = 0 → J_18 0) ∧ (¬ r_21 = 0 → J_18 1)))))))) n 0 0 piece
set_option maxHeartbeats 4000000 in
set_option maxRecDepth 100000 in
theorem bd_Model_move {p : Program} {l : Launch} {e : Env} {R : Room} {s : State} {m : MethodId} {args : Array Value} {below : List Frame} {meth : Method} {c : Code} {D : va_G} {A B : Nat → Prop} {Q : State → Prop} {cI cJ cZ : ClassId} {a_t a_ends a_there a_one a_two a_what a_piece a_kinds a_group a_many a_pieceOf a_numberOf a_ups a_jointUp a_partner a_beyonds a_gone : Nat} {thrown : Int32} {made : Int32} {tree : Int32} {items : Int32} {one : Nat → Int32} {two : Nat → Int32} {what : Nat → Int32} {piece : Nat → Int32} {pieces : Int32} {joints : Int32} {group : Nat → Int32} {nodes : Int32} {x1 : Int32} {x2 : Int32} {x3 : Int32} {x4 : Int32} (K : sk_C p s m args meth c c_Model_move 9 "SkeletonTreeModel" D (tyl cI cJ cZ)) (hR1 : 3 ≤ R.frames) (hR2 : 68 ≤ R.locals) (hBA : ∀ q : Nat, B q → A q) {post : Int32 → (Nat → Int32) → (Nat → Int32) → (Nat → Int32) → (Nat → Int32) → Int32 → Int32 → Prop} (hend : ∀ (ti pc : Nat)  (y0 : Int32) (y1 : Nat → Int32) (y2 : Nat → Int32) (y3 : Nat → Int32) (y4 : Nat → Int32) (y5 : Int32) (y6 : Int32) (lv : List (Nat × Value)), t_Model_move[ti]? = some (pc, .return_, 1) → post  y0 y1 y2 y3 y4 y5 y6 → AW p l e R s m args below meth c D A B 9 Q 0 0 (w_Model_move cI cJ cZ a_t a_ends a_there a_one a_two a_what a_piece a_kinds a_group a_many a_pieceOf a_numberOf a_ups a_jointUp a_partner a_beyonds a_gone thrown made tree y0 y1 y2 y3 y4 y5 y6 group nodes) lv pc []) (h : wp_Model_move items one two what piece pieces joints group x1 x2 x3 x4 post) : AW p l e R s m args below meth c D A B 9 Q 0 0 (w_Model_move cI cJ cZ a_t a_ends a_there a_one a_two a_what a_piece a_kinds a_group a_many a_pieceOf a_numberOf a_ups a_jointUp a_partner a_beyonds a_gone thrown made tree items one two what piece pieces joints group nodes) [(0, .ref a_t), (1, .int x1), (2, .int x2), (3, .int x3), (4, .int x4)] 0 [] := by
  unfold wp_Model_move at h
  refine A_aload_n K d_Model_move 0 0 (pc' := 1) rfl rfl rfl rfl ?_
  refine A_get K d_Model_move 1 0 fl_Model_98 (pc' := 4) rfl rfl rfl rfl ?_
  refine A_istore K d_Model_move 2 (pc' := 6) (lv' := [(5, .int items), (0, .ref a_t), (1, .int x1), (2, .int x2), (3, .int x3), (4, .int x4)]) rfl rfl (by decide) rfl ?_
  refine A_iconst K d_Model_move 3 (pc' := 7) (v := 0) rfl rfl (by decide) ?_
  refine A_istore K d_Model_move 4 (pc' := 9) (lv' := [(6, .int 0), (5, .int items), (0, .ref a_t), (1, .int x1), (2, .int x2), (3, .int x3), (4, .int x4)]) rfl rfl (by decide) rfl ?_
  refine A_iconst K d_Model_move 5 (pc' := 10) (v := 0) rfl rfl (by decide) ?_
  refine A_istore K d_Model_move 6 (pc' := 12) (lv' := [(7, .int 0), (6, .int 0), (5, .int items), (0, .ref a_t), (1, .int x1), (2, .int x2), (3, .int x3), (4, .int x4)]) rfl rfl (by decide) rfl ?_
  refine A_lv [3, 4, 5, 6, 7, 2, 1, 0] rfl ?_
  obtain ⟨n_6, h⟩ := h
  refine sL3_ind (fun (i6_1 : Int32) (i7_2 : Int32) (piece_3 : Nat → Int32) => AW p l e R s m args below meth c D A B 9 Q 0 0 (w_Model_move cI cJ cZ a_t a_ends a_there a_one a_two a_what a_piece a_kinds a_group a_many a_pieceOf a_numberOf a_ups a_jointUp a_partner a_beyonds a_gone thrown made tree items one two what piece_3 pieces joints group nodes) [(0, .ref a_t), (1, .int x1), (2, .int x2), (3, .int x3), (4, .int x4), (5, .int items), (6, .int i6_1), (7, .int i7_2)] 12 []) ?_ n_6 _ _ _ h
  intro K_4 ih_5 i6_1 i7_2 piece_3 h
  refine A_iload K d_Model_move 7 7 (pc' := 14) rfl rfl rfl ?_
  refine A_iload K d_Model_move 8 5 (pc' := 16) rfl rfl rfl ?_
  refine A_icmp_ge K d_Model_move 9 102 (pc' := 19) rfl rfl rfl (fun q => ?_) (fun q => ?_)
  · replace h := h.1 q
    refine A_aload_n K d_Model_move 51 0 (pc' := 103) rfl rfl rfl rfl ?_
    refine A_iload_n K d_Model_move 52 2 (pc' := 104) rfl rfl rfl rfl ?_
    refine A_iload_n K d_Model_move 53 3 (pc' := 105) rfl rfl rfl rfl ?_
    refine A_iconst K d_Model_move 54 (pc' := 106) (v := (-1)) rfl rfl (by decide) ?_
    refine A_aload_n K d_Model_move 55 0 (pc' := 107) rfl rfl rfl rfl ?_
    refine A_get K d_Model_move 56 0 fl_Model_133 (pc' := 110) rfl rfl rfl rfl ?_
    refine A_isub K d_Model_move 57 (pc' := 111) rfl rfl ?_
    refine A_iload_n K d_Model_move 58 1 (pc' := 112) rfl rfl rfl rfl ?_
    refine C_Vv5 K hBA d_Model_move 59 [0, 1, 2, 3, 4] [some 0, some 1, some 2, some 3, some 4, none] (As := [.int x2, .int x3, .int ((-1) - joints), .int x1]) (rest := []) (pc' := 115) (wl := fun items_7 one_8 two_9 what_10 piece_11 => w_Model_add cI cJ cZ a_t a_ends a_there a_one a_two a_what a_piece a_kinds a_group a_many a_pieceOf a_numberOf a_ups a_jointUp a_partner a_beyonds a_gone thrown made tree items_7 one_8 two_9 what_10 piece_11 pieces joints nodes) (ws' := fun items_7 one_8 two_9 what_10 piece_11 => w_Model_move cI cJ cZ a_t a_ends a_there a_one a_two a_what a_piece a_kinds a_group a_many a_pieceOf a_numberOf a_ups a_jointUp a_partner a_beyonds a_gone thrown made tree items_7 one_8 two_9 what_10 piece_11 pieces joints group nodes) v_Model_136 ⟨rfl, rfl, Nat.le_trans (Nat.le_of_ble_eq_true rfl) hR1, Nat.le_trans (Nat.le_of_ble_eq_true rfl) hR2⟩ (fun sz => met_Model_add l D cI cJ cZ a_t a_ends a_there a_one a_two a_what a_piece a_kinds a_group a_many a_pieceOf a_numberOf a_ups a_jointUp a_partner a_beyonds a_gone thrown made tree items one two what piece_3 pieces joints nodes x2 x3 ((-1) - joints) x1 _ sz) h rfl rfl rfl rfl rfl (fun _ _ _ _ _ => rfl) rfl (by decide) (Nat.le_of_ble_eq_true rfl) ⟨Nat.zero_le _, Nat.zero_le _⟩ (q0 := 0) rfl rfl (fun _ _ _ _ _ => rfl) (fun items_7 one_8 two_9 what_10 piece_11 h => ?_)
    refine A_aload_n K d_Model_move 60 0 (pc' := 116) rfl rfl rfl rfl ?_
    refine A_iload_n K d_Model_move 61 2 (pc' := 117) rfl rfl rfl rfl ?_
    refine A_iload_n K d_Model_move 62 3 (pc' := 118) rfl rfl rfl rfl ?_
    refine A_iconst K d_Model_move 63 (pc' := 119) (v := (-1)) rfl rfl (by decide) ?_
    refine A_aload_n K d_Model_move 64 0 (pc' := 120) rfl rfl rfl rfl ?_
    refine A_get K d_Model_move 65 0 fl_Model_133 (pc' := 123) rfl rfl rfl rfl ?_
    refine A_isub K d_Model_move 66 (pc' := 124) rfl rfl ?_
    refine A_aload_n K d_Model_move 67 0 (pc' := 125) rfl rfl rfl rfl ?_
    refine A_get K d_Model_move 68 0 fl_Model_130 (pc' := 128) rfl rfl rfl rfl ?_
    refine C_Vv5 K hBA d_Model_move 69 [0, 1, 2, 3, 4] [some 0, some 1, some 2, some 3, some 4, none] (As := [.int x2, .int x3, .int ((-1) - joints), .int pieces]) (rest := []) (pc' := 131) (wl := fun items_12 one_13 two_14 what_15 piece_16 => w_Model_add cI cJ cZ a_t a_ends a_there a_one a_two a_what a_piece a_kinds a_group a_many a_pieceOf a_numberOf a_ups a_jointUp a_partner a_beyonds a_gone thrown made tree items_12 one_13 two_14 what_15 piece_16 pieces joints nodes) (ws' := fun items_12 one_13 two_14 what_15 piece_16 => w_Model_move cI cJ cZ a_t a_ends a_there a_one a_two a_what a_piece a_kinds a_group a_many a_pieceOf a_numberOf a_ups a_jointUp a_partner a_beyonds a_gone thrown made tree items_12 one_13 two_14 what_15 piece_16 pieces joints group nodes) v_Model_136 ⟨rfl, rfl, Nat.le_trans (Nat.le_of_ble_eq_true rfl) hR1, Nat.le_trans (Nat.le_of_ble_eq_true rfl) hR2⟩ (fun sz => met_Model_add l D cI cJ cZ a_t a_ends a_there a_one a_two a_what a_piece a_kinds a_group a_many a_pieceOf a_numberOf a_ups a_jointUp a_partner a_beyonds a_gone thrown made tree items_7 one_8 two_9 what_10 piece_11 pieces joints nodes x2 x3 ((-1) - joints) pieces _ sz) h rfl rfl rfl rfl rfl (fun _ _ _ _ _ => rfl) rfl (by decide) (Nat.le_of_ble_eq_true rfl) ⟨Nat.zero_le _, Nat.zero_le _⟩ (q0 := 0) rfl rfl (fun _ _ _ _ _ => rfl) (fun items_12 one_13 two_14 what_15 piece_16 h => ?_)
    refine A_aload_n K d_Model_move 70 0 (pc' := 132) rfl rfl rfl rfl ?_
    refine A_dup K d_Model_move 71 (pc' := 133) rfl rfl rfl ?_
    refine A_get K d_Model_move 72 0 fl_Model_133 (pc' := 136) rfl rfl rfl rfl ?_
    refine A_iconst K d_Model_move 73 (pc' := 137) (v := 1) rfl rfl (by decide) ?_
    refine A_iadd K d_Model_move 74 (pc' := 138) rfl rfl ?_
    refine A_put K hBA d_Model_move 75 0 fp_Model_133 (pc' := 141) (ws' := w_Model_move cI cJ cZ a_t a_ends a_there a_one a_two a_what a_piece a_kinds a_group a_many a_pieceOf a_numberOf a_ups a_jointUp a_partner a_beyonds a_gone thrown made tree items_12 one_13 two_14 what_15 piece_16 pieces (joints + 1) group nodes) rfl rfl rfl (Nat.le_of_ble_eq_true rfl) rfl rfl rfl ?_
    refine A_aload_n K d_Model_move 76 0 (pc' := 142) rfl rfl rfl rfl ?_
    refine A_dup K d_Model_move 77 (pc' := 143) rfl rfl rfl ?_
    refine A_get K d_Model_move 78 0 fl_Model_130 (pc' := 146) rfl rfl rfl rfl ?_
    refine A_iconst K d_Model_move 79 (pc' := 147) (v := 1) rfl rfl (by decide) ?_
    refine A_iadd K d_Model_move 80 (pc' := 148) rfl rfl ?_
    refine A_put K hBA d_Model_move 81 0 fp_Model_130 (pc' := 151) (ws' := w_Model_move cI cJ cZ a_t a_ends a_there a_one a_two a_what a_piece a_kinds a_group a_many a_pieceOf a_numberOf a_ups a_jointUp a_partner a_beyonds a_gone thrown made tree items_12 one_13 two_14 what_15 piece_16 (pieces + 1) (joints + 1) group nodes) rfl rfl rfl (Nat.le_of_ble_eq_true rfl) rfl rfl rfl ?_
    exact hend 82 _ _ _ _ _ _ _ _ _ rfl h
  · replace h := h.2 q
    refine A_aload_n K d_Model_move 10 0 (pc' := 20) rfl rfl rfl rfl ?_
    refine A_get K d_Model_move 11 0 fl_Model_26 (pc' := 23) rfl rfl rfl rfl ?_
    refine A_iload K d_Model_move 12 7 (pc' := 25) rfl rfl rfl ?_
    refine A_iald K d_Model_move 13 4 0 (pc' := 26) rfl rfl rfl rfl h.1 ?_
    replace h := h.2
    refine A_iload_n K d_Model_move 14 1 (pc' := 27) rfl rfl rfl rfl ?_
    refine jn1_use (fun (z_17 : Int32) => AW p l e R s m args below meth c D A B 9 Q 0 0 (w_Model_move cI cJ cZ a_t a_ends a_there a_one a_two a_what a_piece a_kinds a_group a_many a_pieceOf a_numberOf a_ups a_jointUp a_partner a_beyonds a_gone thrown made tree items one two what piece_3 pieces joints group nodes) [(0, .ref a_t), (1, .int x1), (2, .int x2), (3, .int x3), (4, .int x4), (5, .int items), (6, .int i6_1), (7, .int i7_2)] 75 [.int z_17]) h ?_ ?_
    · intro z_17 h
      refine A_istore K d_Model_move 39 (pc' := 77) (lv' := [(8, .int z_17), (0, .ref a_t), (1, .int x1), (2, .int x2), (3, .int x3), (4, .int x4), (5, .int items), (6, .int i6_1), (7, .int i7_2)]) rfl rfl (by decide) rfl ?_
      refine A_iload K d_Model_move 40 0 (pc' := 79) rfl rfl rfl ?_
      refine A_if_eq K d_Model_move 41 96 (pc' := 82) rfl rfl rfl (fun q => ?_) (fun q => ?_)
      · replace h := h.1 q
        refine A_iinc K d_Model_move 49 8 (pc' := 99) (v := i7_2 + 1) (lv' := [(7, .int (i7_2 + 1)), (8, .int z_17), (0, .ref a_t), (1, .int x1), (2, .int x2), (3, .int x3), (4, .int x4), (5, .int items), (6, .int i6_1)]) rfl rfl rfl rfl (by decide) rfl ?_
        refine A_goto K d_Model_move 50 (pc' := 12) rfl rfl ?_
        refine A_lv [2, 3, 4, 5, 6, 7, 8, 0] rfl ?_
        exact ih_5 _ _ _ h
      · replace h := h.2 q
        refine A_aload_n K d_Model_move 42 1 (pc' := 83) rfl rfl rfl rfl ?_
        refine A_get K d_Model_move 43 0 fl_Model_26 (pc' := 86) rfl rfl rfl rfl ?_
        refine A_iload K d_Model_move 44 8 (pc' := 88) rfl rfl rfl ?_
        refine A_aload_n K d_Model_move 45 1 (pc' := 89) rfl rfl rfl rfl ?_
        refine A_get K d_Model_move 46 0 fl_Model_130 (pc' := 92) rfl rfl rfl rfl ?_
        refine A_iastN K hBA d_Model_move 47 4 0 (pc' := 93) (ws' := fun piece_22 => w_Model_move cI cJ cZ a_t a_ends a_there a_one a_two a_what a_piece a_kinds a_group a_many a_pieceOf a_numberOf a_ups a_jointUp a_partner a_beyonds a_gone thrown made tree items one two what piece_22 pieces joints group nodes) rfl rfl rfl rfl h.1 (fun _ => rfl) (fun piece_22 e_23 => ?_)
        replace h := h.2 piece_22 e_23
        refine A_iinc K d_Model_move 48 7 (pc' := 96) (v := i6_1 + 1) (lv' := [(6, .int (i6_1 + 1)), (8, .int z_17), (0, .ref a_t), (1, .int x1), (2, .int x2), (3, .int x3), (4, .int x4), (5, .int items), (7, .int i7_2)]) rfl rfl rfl rfl (by decide) rfl ?_
        refine A_iinc K d_Model_move 49 8 (pc' := 99) (v := i7_2 + 1) (lv' := [(7, .int (i7_2 + 1)), (6, .int (i6_1 + 1)), (8, .int z_17), (0, .ref a_t), (1, .int x1), (2, .int x2), (3, .int x3), (4, .int x4), (5, .int items)]) rfl rfl rfl rfl (by decide) rfl ?_
        refine A_goto K d_Model_move 50 (pc' := 12) rfl rfl ?_
        refine A_lv [3, 4, 5, 6, 7, 8, 1, 0] rfl ?_
        exact ih_5 _ _ _ h
    · intro J_18 hJ_19 h
      refine A_icmp_ne K d_Model_move 15 74 (pc' := 30) rfl rfl rfl (fun q => ?_) (fun q => ?_)
      · replace h := h.1 q
        refine A_iconst K d_Model_move 38 (pc' := 75) (v := 0) rfl rfl (by decide) ?_
        refine A_lv [0, 1, 2, 3, 4, 5, 6, 7] rfl ?_
        exact hJ_19 _ h
      · replace h := h.2 q
        refine A_iload K d_Model_move 16 4 (pc' := 32) rfl rfl rfl ?_
        refine A_bipush K d_Model_move 17 (pc' := 34) (v := 40) rfl rfl (by decide) ?_
        refine A_icmp_ne K d_Model_move 18 57 (pc' := 37) rfl rfl rfl (fun q => ?_) (fun q => ?_)
        · replace h := h.1 q
          refine A_aload_n K d_Model_move 29 0 (pc' := 58) rfl rfl rfl rfl ?_
          refine A_iload K d_Model_move 30 7 (pc' := 60) rfl rfl rfl ?_
          refine A_iload_n K d_Model_move 31 2 (pc' := 61) rfl rfl rfl rfl ?_
          refine A_iload_n K d_Model_move 32 3 (pc' := 62) rfl rfl rfl rfl ?_
          refine R_callV_i K d_Model_move 33 [0, 1, 2, 5] (As := [.int i7_2, .int x2, .int x3]) (rest := []) (pc' := 65) v_Model_109 ⟨rfl, rfl, Nat.le_trans (Nat.le_of_ble_eq_true rfl) hR1, Nat.le_trans (Nat.le_of_ble_eq_true rfl) hR2⟩ (fun sz => met_Model_groupOf l D cI cJ cZ a_t a_ends a_there a_one a_two a_what a_piece a_kinds a_group a_many a_pieceOf a_numberOf a_ups a_jointUp a_partner a_beyonds a_gone thrown made tree items one two pieces joints group nodes i7_2 x2 x3 _ sz) h rfl rfl rfl rfl rfl rfl (Nat.le_of_ble_eq_true rfl) ⟨Nat.zero_le _, Nat.zero_le _⟩ (q0 := 0) rfl rfl (fun r_20 h => ?_)
          refine A_iload K d_Model_move 34 4 (pc' := 67) rfl rfl rfl ?_
          refine A_icmp_ne K d_Model_move 35 74 (pc' := 70) rfl rfl rfl (fun q => ?_) (fun q => ?_)
          · replace h := h.1 q
            refine A_iconst K d_Model_move 38 (pc' := 75) (v := 0) rfl rfl (by decide) ?_
            refine A_lv [0, 1, 2, 3, 4, 5, 6, 7] rfl ?_
            exact hJ_19 _ h
          · replace h := h.2 q
            refine A_iconst K d_Model_move 36 (pc' := 71) (v := 1) rfl rfl (by decide) ?_
            refine A_goto K d_Model_move 37 (pc' := 75) rfl rfl ?_
            refine A_lv [0, 1, 2, 3, 4, 5, 6, 7] rfl ?_
            exact hJ_19 _ h
        · replace h := h.2 q
          refine A_iload K d_Model_move 19 6 (pc' := 39) rfl rfl rfl ?_
          refine A_iconst K d_Model_move 20 (pc' := 40) (v := 2) rfl rfl (by decide) ?_
          refine A_icmp_ge K d_Model_move 21 74 (pc' := 43) rfl rfl rfl (fun q => ?_) (fun q => ?_)
          · replace h := h.1 q
            refine A_iconst K d_Model_move 38 (pc' := 75) (v := 0) rfl rfl (by decide) ?_
            refine A_lv [0, 1, 2, 3, 4, 5, 6, 7] rfl ?_
            exact hJ_19 _ h
          · replace h := h.2 q
            refine A_aload_n K d_Model_move 22 0 (pc' := 44) rfl rfl rfl rfl ?_
            refine A_iload K d_Model_move 23 7 (pc' := 46) rfl rfl rfl ?_
            refine A_iload_n K d_Model_move 24 2 (pc' := 47) rfl rfl rfl rfl ?_
            refine A_iload_n K d_Model_move 25 3 (pc' := 48) rfl rfl rfl rfl ?_
            refine R_callV_i K d_Model_move 26 [0, 1, 2] (As := [.int i7_2, .int x2, .int x3]) (rest := []) (pc' := 51) v_Model_105 ⟨rfl, rfl, Nat.le_trans (Nat.le_of_ble_eq_true rfl) hR1, Nat.le_trans (Nat.le_of_ble_eq_true rfl) hR2⟩ (fun sz => met_Model_isBetween l D cI cJ cZ a_t a_ends a_there a_one a_two a_what a_piece a_kinds a_group a_many a_pieceOf a_numberOf a_ups a_jointUp a_partner a_beyonds a_gone thrown made tree items one two pieces joints nodes i7_2 x2 x3 _ sz) h rfl rfl rfl rfl rfl rfl (Nat.le_of_ble_eq_true rfl) ⟨Nat.zero_le _, Nat.zero_le _⟩ (q0 := 0) rfl rfl (fun r_21 h => ?_)
            refine A_if_eq K d_Model_move 27 74 (pc' := 54) rfl rfl rfl (fun q => ?_) (fun q => ?_)
            · replace h := h.1 q
              refine A_iconst K d_Model_move 38 (pc' := 75) (v := 0) rfl rfl (by decide) ?_
              refine A_lv [0, 1, 2, 3, 4, 5, 6, 7] rfl ?_
              exact hJ_19 _ h
            · replace h := h.2 q
              refine A_goto K d_Model_move 28 (pc' := 70) rfl rfl ?_
              refine A_iconst K d_Model_move 36 (pc' := 71) (v := 1) rfl rfl (by decide) ?_
              refine A_goto K d_Model_move 37 (pc' := 75) rfl rfl ?_
              refine A_lv [0, 1, 2, 3, 4, 5, 6, 7] rfl ?_
              exact hJ_19 _ h
theorem met_Model_move (l : Launch) (D : va_G) (cI cJ cZ : ClassId) (a_t a_ends a_there a_one a_two a_what a_piece a_kinds a_group a_many a_pieceOf a_numberOf a_ups a_jointUp a_partner a_beyonds a_gone : Nat) (thrown : Int32) (made : Int32) (tree : Int32) (items : Int32) (one : Nat → Int32) (two : Nat → Int32) (what : Nat → Int32) (piece : Nat → Int32) (pieces : Int32) (joints : Int32) (group : Nat → Int32) (nodes : Int32) (x1 : Int32) (x2 : Int32) (x3 : Int32) (x4 : Int32) (post : Int32 → (Nat → Int32) → (Nat → Int32) → (Nat → Int32) → (Nat → Int32) → Int32 → Int32 → Prop) (sz : Nat) : Met l y_Model_move (Cond.code y_Model_move c_Model_move 9 (Option.none : Option Jvm.ClassFile.FieldType) :: GW) { frames := 3, cells := 0, slots := 0, locals := 68 } (va_Pc [.ref a_t, .int x1, .int x2, .int x3, .int x4] (fun U => sk_P D (tyl cI cJ cZ) (w_Model_move cI cJ cZ a_t a_ends a_there a_one a_two a_what a_piece a_kinds a_group a_many a_pieceOf a_numberOf a_ups a_jointUp a_partner a_beyonds a_gone thrown made tree items one two what piece pieces joints group nodes) sz U ∧ wp_Model_move items one two what piece pieces joints group x1 x2 x3 x4 post)) (va_Qv (fun (u : Int32 × (Nat → Int32) × (Nat → Int32) × (Nat → Int32) × (Nat → Int32) × Int32 × Int32) => post  u.1 u.2.1 u.2.2.1 u.2.2.2.1 u.2.2.2.2.1 u.2.2.2.2.2.1 u.2.2.2.2.2.2) (fun u t => sk_B D (tyl cI cJ cZ) (w_Model_move cI cJ cZ a_t a_ends a_there a_one a_two a_what a_piece a_kinds a_group a_many a_pieceOf a_numberOf a_ups a_jointUp a_partner a_beyonds a_gone thrown made tree u.1 u.2.1 u.2.2.1 u.2.2.2.1 u.2.2.2.2.1 u.2.2.2.2.2.1 u.2.2.2.2.2.2 group nodes) (va_A (w_Model_move cI cJ cZ a_t a_ends a_there a_one a_two a_what a_piece a_kinds a_group a_many a_pieceOf a_numberOf a_ups a_jointUp a_partner a_beyonds a_gone thrown made tree items one two what piece pieces joints group nodes) sz) t) (va_A (w_Model_move cI cJ cZ a_t a_ends a_there a_one a_two a_what a_piece a_kinds a_group a_many a_pieceOf a_numberOf a_ups a_jointUp a_partner a_beyonds a_gone thrown made tree items one two what piece pieces joints group nodes) sz)) 0 0 (va_A (w_Model_move cI cJ cZ a_t a_ends a_there a_one a_two a_what a_piece a_kinds a_group a_many a_pieceOf a_numberOf a_ups a_jointUp a_partner a_beyonds a_gone thrown made tree items one two what piece pieces joints group nodes) sz) :=
  sk_intro (by decide) (Nat.le_of_ble_eq_true rfl) (fun p e s m below meth c K hr _ h => bd_Model_move K (Nat.le_refl _) (Nat.le_refl _) (fun _ z => z) (fun ti pc y0 y1 y2 y3 y4 y5 y6 lv hd hp => A_vret K d_Model_move ti hr (post := (fun (u : Int32 × (Nat → Int32) × (Nat → Int32) × (Nat → Int32) × (Nat → Int32) × Int32 × Int32) => post  u.1 u.2.1 u.2.2.1 u.2.2.2.1 u.2.2.2.2.1 u.2.2.2.2.2.1 u.2.2.2.2.2.2)) (wl := fun (u : Int32 × (Nat → Int32) × (Nat → Int32) × (Nat → Int32) × (Nat → Int32) × Int32 × Int32) => w_Model_move cI cJ cZ a_t a_ends a_there a_one a_two a_what a_piece a_kinds a_group a_many a_pieceOf a_numberOf a_ups a_jointUp a_partner a_beyonds a_gone thrown made tree u.1 u.2.1 u.2.2.1 u.2.2.2.1 u.2.2.2.2.1 u.2.2.2.2.2.1 u.2.2.2.2.2.2 group nodes) (y0, y1, y2, y3, y4, y5, y6) hd hp) h)
/-! SkeletonTreeModel.split(I)Z -/
def t_Model_split : List (Nat × Instr × Nat) := [(0, .iconst 0, 1), (1, .istore_n 2, 1), (2, .iload_n 2, 1), (3, .bipush 40, 2), (5, .if_icmp .ge 72, 3), (8, .iload_n 2, 1), (9, .iconst 1, 1), (10, .iadd, 1), (11, .istore_n 3, 1), (12, .iload_n 3, 1), (13, .bipush 40, 2), (15, .if_icmp .ge 56, 3), (18, .aload_n 0, 1), (19, .iload_n 1, 1), (20, .iload_n 2, 1), (21, .invokevirtual 120, 3), (24, .ifCond .eq 47, 3), (27, .aload_n 0, 1), (28, .iload_n 1, 1), (29, .iload_n 3, 1), (30, .invokevirtual 120, 3), (33, .ifCond .eq 13, 3), (36, .aload_n 0, 1), (37, .iload_n 1, 1), (38, .iload_n 2, 1), (39, .iload_n 3, 1), (40, .invokevirtual 123, 3), (43, .goto 4, 3), (46, .iconst (-1), 1), (47, .istore 4, 2), (49, .iload 4, 2), (51, .ifCond .lt 14, 3), (54, .aload_n 0, 1), (55, .iload_n 1, 1), (56, .iload_n 2, 1), (57, .iload_n 3, 1), (58, .iload 4, 2), (60, .invokevirtual 126, 3), (63, .iconst 1, 1), (64, .ireturn, 1), (65, .iinc 3 1, 3), (68, .goto (-56), 3), (71, .iinc 2 1, 3), (74, .goto (-72), 3), (77, .iconst 0, 1), (78, .ireturn, 1)]
set_option maxRecDepth 100000 in
theorem d_Model_split : sk_T c_Model_split t_Model_split := by unfold sk_T t_Model_split; decide +kernel
def w_Model_split (cI cJ cZ : ClassId) (a_t a_ends a_there a_one a_two a_what a_piece a_kinds a_group a_many a_pieceOf a_numberOf a_ups a_jointUp a_partner a_beyonds a_gone : Nat) (thrown : Int32) (made : Int32) (tree : Int32) (items : Int32) (one : Nat → Int32) (two : Nat → Int32) (what : Nat → Int32) (piece : Nat → Int32) (pieces : Int32) (joints : Int32) (group : Nat → Int32) (many : Nat → Int32) (nodes : Int32) : va_W := [(a_t, .inr (5, [.int thrown, .int made, .ref a_ends, .ref a_there, .int tree, .int items, .ref a_one, .ref a_two, .ref a_what, .ref a_piece, .int pieces, .int joints, .ref a_kinds, .ref a_group, .ref a_many, .int nodes, .ref a_pieceOf, .ref a_numberOf, .ref a_ups, .ref a_jointUp, .ref a_partner, .ref a_beyonds, .ref a_gone])), (a_one, .inl (cI, 320, .inl one)), (a_two, .inl (cI, 320, .inl two)), (a_what, .inl (cI, 320, .inl what)), (a_piece, .inl (cI, 320, .inl piece)), (a_group, .inl (cI, 40, .inl group)), (a_many, .inl (cI, 40, .inl many))]
def wp_Model_split  (items : Int32) (one : Nat → Int32) (two : Nat → Int32) (what : Nat → Int32) (piece : Nat → Int32) (pieces : Int32) (joints : Int32) (group : Nat → Int32) (many : Nat → Int32) (x1 : Int32) (post : Int32 → Int32 → (Nat → Int32) → (Nat → Int32) → (Nat → Int32) → (Nat → Int32) → Int32 → Int32 → (Nat → Int32) → (Nat → Int32) → Prop) : Prop :=
  ∃ n, sL10 (fun (K_11 : Int32 → Int32 → (Nat → Int32) → (Nat → Int32) → (Nat → Int32) → (Nat → Int32) → Int32 → Int32 → (Nat → Int32) → (Nat → Int32) → Prop) (i2_1 : Int32) (items_2 : Int32) (one_3 : Nat → Int32) (two_4 : Nat → Int32) (what_5 : Nat → Int32) (piece_6 : Nat → Int32) (pieces_7 : Int32) (joints_8 : Int32) (group_9 : Nat → Int32) (many_10 : Nat → Int32) => (40 ≤ i2_1 → post 0 items_2 one_3 two_4 what_5 piece_6 pieces_7 joints_8 group_9 many_10) ∧ (¬ 40 ≤ i2_1 → ∃ n, sL10 (fun (K_24 : Int32 → Int32 → (Nat → Int32) → (Nat → Int32) → (Nat → Int32) → (Nat → Int32) → Int32 → Int32 → (Nat → Int32) → (Nat → Int32) → Prop) (i3_14 : Int32) (items_15 : Int32) (one_16 : Nat → Int32) (two_17 : Nat → Int32) (what_18 : Nat → Int32) (piece_19 : Nat → Int32) (pieces_20 : Int32) (joints_21 : Int32) (group_22 : Nat → Int32) (many_23 : Nat → Int32) => (40 ≤ i3_14 → K_11 (i2_1 + 1) items_15 one_16 two_17 what_18 piece_19 pieces_20 joints_21 group_22 many_23) ∧ (¬ 40 ≤ i3_14 → wp_Model_hasPoint items_15 one_16 two_17 piece_19 x1 i2_1 (fun r_27 => (r_27 = 0 → K_11 (i2_1 + 1) items_15 one_16 two_17 what_18 piece_19 pieces_20 joints_21 group_22 many_23) ∧ (¬ r_27 = 0 → wp_Model_hasPoint items_15 one_16 two_17 piece_19 x1 i3_14 (fun r_28 => jn3 (fun (z_29 : Int32) (group_30 : Nat → Int32) (many_31 : Nat → Int32) => (z_29 < 0 → K_24 (i3_14 + 1) items_15 one_16 two_17 what_18 piece_19 pieces_20 joints_21 group_30 many_31) ∧ (¬ z_29 < 0 → wp_Model_move items_15 one_16 two_17 what_18 piece_19 pieces_20 joints_21 group_30 x1 i2_1 i3_14 z_29 (fun items_37 one_38 two_39 what_40 piece_41 pieces_42 joints_43 => post 1 items_37 one_38 two_39 what_40 piece_41 pieces_42 joints_43 group_30 many_31))) (fun (J_32 : Int32 → (Nat → Int32) → (Nat → Int32) → Prop) => (r_28 = 0 → J_32 (-1) group_22 many_23) ∧ (¬ r_28 = 0 → wp_Model_partOf items_15 one_16 two_17 piece_19 group_22 many_23 x1 i2_1 i3_14 (fun r_36 group_34 many_35 => J_32 r_36 group_34 many_35)))))))) n (i2_1 + 1) items_2 one_3 two_4 what_5 piece_6 pieces_7 joints_8 group_9 many_10)) n 0 items one two what piece pieces joints group many
set_option maxHeartbeats 4000000 in
set_option maxRecDepth 100000 in
theorem bd_Model_split {p : Program} {l : Launch} {e : Env} {R : Room} {s : State} {m : MethodId} {args : Array Value} {below : List Frame} {meth : Method} {c : Code} {D : va_G} {A B : Nat → Prop} {Q : State → Prop} {cI cJ cZ : ClassId} {a_t a_ends a_there a_one a_two a_what a_piece a_kinds a_group a_many a_pieceOf a_numberOf a_ups a_jointUp a_partner a_beyonds a_gone : Nat} {thrown : Int32} {made : Int32} {tree : Int32} {items : Int32} {one : Nat → Int32} {two : Nat → Int32} {what : Nat → Int32} {piece : Nat → Int32} {pieces : Int32} {joints : Int32} {group : Nat → Int32} {many : Nat → Int32} {nodes : Int32} {x1 : Int32} (K : sk_C p s m args meth c c_Model_split 5 "SkeletonTreeModel" D (tyl cI cJ cZ)) (hR1 : 5 ≤ R.frames) (hR2 : 120 ≤ R.locals) (hBA : ∀ q : Nat, B q → A q) {post : Int32 → Int32 → (Nat → Int32) → (Nat → Int32) → (Nat → Int32) → (Nat → Int32) → Int32 → Int32 → (Nat → Int32) → (Nat → Int32) → Prop} (hend : ∀ (ti pc : Nat) (r : Int32) (y0 : Int32) (y1 : Nat → Int32) (y2 : Nat → Int32) (y3 : Nat → Int32) (y4 : Nat → Int32) (y5 : Int32) (y6 : Int32) (y7 : Nat → Int32) (y8 : Nat → Int32) (lv : List (Nat × Value)), t_Model_split[ti]? = some (pc, .ireturn, 1) → sk_b r → post r y0 y1 y2 y3 y4 y5 y6 y7 y8 → AW p l e R s m args below meth c D A B 5 Q 0 0 (w_Model_split cI cJ cZ a_t a_ends a_there a_one a_two a_what a_piece a_kinds a_group a_many a_pieceOf a_numberOf a_ups a_jointUp a_partner a_beyonds a_gone thrown made tree y0 y1 y2 y3 y4 y5 y6 y7 y8 nodes) lv pc [.int r]) (h : wp_Model_split items one two what piece pieces joints group many x1 post) : AW p l e R s m args below meth c D A B 5 Q 0 0 (w_Model_split cI cJ cZ a_t a_ends a_there a_one a_two a_what a_piece a_kinds a_group a_many a_pieceOf a_numberOf a_ups a_jointUp a_partner a_beyonds a_gone thrown made tree items one two what piece pieces joints group many nodes) [(0, .ref a_t), (1, .int x1)] 0 [] := by
  unfold wp_Model_split at h
  refine A_iconst K d_Model_split 0 (pc' := 1) (v := 0) rfl rfl (by decide) ?_
  refine A_istore_n K d_Model_split 1 (pc' := 2) (lv' := [(2, .int 0), (0, .ref a_t), (1, .int x1)]) rfl rfl rfl (by decide) rfl ?_
  refine A_lv [1, 2, 0] rfl ?_
  obtain ⟨n_13, h⟩ := h
  refine sL10_ind (fun (i2_1 : Int32) (items_2 : Int32) (one_3 : Nat → Int32) (two_4 : Nat → Int32) (what_5 : Nat → Int32) (piece_6 : Nat → Int32) (pieces_7 : Int32) (joints_8 : Int32) (group_9 : Nat → Int32) (many_10 : Nat → Int32) => AW p l e R s m args below meth c D A B 5 Q 0 0 (w_Model_split cI cJ cZ a_t a_ends a_there a_one a_two a_what a_piece a_kinds a_group a_many a_pieceOf a_numberOf a_ups a_jointUp a_partner a_beyonds a_gone thrown made tree items_2 one_3 two_4 what_5 piece_6 pieces_7 joints_8 group_9 many_10 nodes) [(0, .ref a_t), (1, .int x1), (2, .int i2_1)] 2 []) ?_ n_13 _ _ _ _ _ _ _ _ _ _ h
  intro K_11 ih_12 i2_1 items_2 one_3 two_4 what_5 piece_6 pieces_7 joints_8 group_9 many_10 h
  refine A_iload_n K d_Model_split 2 2 (pc' := 3) rfl rfl rfl rfl ?_
  refine A_bipush K d_Model_split 3 (pc' := 5) (v := 40) rfl rfl (by decide) ?_
  refine A_icmp_ge K d_Model_split 4 77 (pc' := 8) rfl rfl rfl (fun q => ?_) (fun q => ?_)
  · replace h := h.1 q
    refine A_iconst K d_Model_split 44 (pc' := 78) (v := 0) rfl rfl (by decide) ?_
    exact hend 45 _ _ _ _ _ _ _ _ _ _ _ _ rfl (Or.inl rfl) h
  · replace h := h.2 q
    refine A_iload_n K d_Model_split 5 2 (pc' := 9) rfl rfl rfl rfl ?_
    refine A_iconst K d_Model_split 6 (pc' := 10) (v := 1) rfl rfl (by decide) ?_
    refine A_iadd K d_Model_split 7 (pc' := 11) rfl rfl ?_
    refine A_istore_n K d_Model_split 8 (pc' := 12) (lv' := [(3, .int (i2_1 + 1)), (0, .ref a_t), (1, .int x1), (2, .int i2_1)]) rfl rfl rfl (by decide) rfl ?_
    refine A_lv [1, 2, 3, 0] rfl ?_
    obtain ⟨n_26, h⟩ := h
    refine sL10_ind (fun (i3_14 : Int32) (items_15 : Int32) (one_16 : Nat → Int32) (two_17 : Nat → Int32) (what_18 : Nat → Int32) (piece_19 : Nat → Int32) (pieces_20 : Int32) (joints_21 : Int32) (group_22 : Nat → Int32) (many_23 : Nat → Int32) => AW p l e R s m args below meth c D A B 5 Q 0 0 (w_Model_split cI cJ cZ a_t a_ends a_there a_one a_two a_what a_piece a_kinds a_group a_many a_pieceOf a_numberOf a_ups a_jointUp a_partner a_beyonds a_gone thrown made tree items_15 one_16 two_17 what_18 piece_19 pieces_20 joints_21 group_22 many_23 nodes) [(0, .ref a_t), (1, .int x1), (2, .int i2_1), (3, .int i3_14)] 12 []) ?_ n_26 _ _ _ _ _ _ _ _ _ _ h
    intro K_24 ih_25 i3_14 items_15 one_16 two_17 what_18 piece_19 pieces_20 joints_21 group_22 many_23 h
    refine A_iload_n K d_Model_split 9 3 (pc' := 13) rfl rfl rfl rfl ?_
    refine A_bipush K d_Model_split 10 (pc' := 15) (v := 40) rfl rfl (by decide) ?_
    refine A_icmp_ge K d_Model_split 11 71 (pc' := 18) rfl rfl rfl (fun q => ?_) (fun q => ?_)
    · replace h := h.1 q
      refine A_iinc K d_Model_split 42 2 (pc' := 74) (v := i2_1 + 1) (lv' := [(2, .int (i2_1 + 1)), (0, .ref a_t), (1, .int x1), (3, .int i3_14)]) rfl rfl rfl rfl (by decide) rfl ?_
      refine A_goto K d_Model_split 43 (pc' := 2) rfl rfl ?_
      refine A_lv [1, 2, 0] rfl ?_
      exact ih_12 _ _ _ _ _ _ _ _ _ _ h
    · replace h := h.2 q
      refine A_aload_n K d_Model_split 12 0 (pc' := 19) rfl rfl rfl rfl ?_
      refine A_iload_n K d_Model_split 13 1 (pc' := 20) rfl rfl rfl rfl ?_
      refine A_iload_n K d_Model_split 14 2 (pc' := 21) rfl rfl rfl rfl ?_
      refine R_callV_i K d_Model_split 15 [0, 1, 2, 4] (As := [.int x1, .int i2_1]) (rest := []) (pc' := 24) v_Model_120 ⟨rfl, rfl, Nat.le_trans (Nat.le_of_ble_eq_true rfl) hR1, Nat.le_trans (Nat.le_of_ble_eq_true rfl) hR2⟩ (fun sz => met_Model_hasPoint l D cI cJ cZ a_t a_ends a_there a_one a_two a_what a_piece a_kinds a_group a_many a_pieceOf a_numberOf a_ups a_jointUp a_partner a_beyonds a_gone thrown made tree items_15 one_16 two_17 piece_19 pieces_20 joints_21 nodes x1 i2_1 _ sz) h rfl rfl rfl rfl rfl rfl (Nat.le_of_ble_eq_true rfl) ⟨Nat.zero_le _, Nat.zero_le _⟩ (q0 := 0) rfl rfl (fun r_27 h => ?_)
      refine A_if_eq K d_Model_split 16 71 (pc' := 27) rfl rfl rfl (fun q => ?_) (fun q => ?_)
      · replace h := h.1 q
        refine A_iinc K d_Model_split 42 2 (pc' := 74) (v := i2_1 + 1) (lv' := [(2, .int (i2_1 + 1)), (0, .ref a_t), (1, .int x1), (3, .int i3_14)]) rfl rfl rfl rfl (by decide) rfl ?_
        refine A_goto K d_Model_split 43 (pc' := 2) rfl rfl ?_
        refine A_lv [1, 2, 0] rfl ?_
        exact ih_12 _ _ _ _ _ _ _ _ _ _ h
      · replace h := h.2 q
        refine A_aload_n K d_Model_split 17 0 (pc' := 28) rfl rfl rfl rfl ?_
        refine A_iload_n K d_Model_split 18 1 (pc' := 29) rfl rfl rfl rfl ?_
        refine A_iload_n K d_Model_split 19 3 (pc' := 30) rfl rfl rfl rfl ?_
        refine R_callV_i K d_Model_split 20 [0, 1, 2, 4] (As := [.int x1, .int i3_14]) (rest := []) (pc' := 33) v_Model_120 ⟨rfl, rfl, Nat.le_trans (Nat.le_of_ble_eq_true rfl) hR1, Nat.le_trans (Nat.le_of_ble_eq_true rfl) hR2⟩ (fun sz => met_Model_hasPoint l D cI cJ cZ a_t a_ends a_there a_one a_two a_what a_piece a_kinds a_group a_many a_pieceOf a_numberOf a_ups a_jointUp a_partner a_beyonds a_gone thrown made tree items_15 one_16 two_17 piece_19 pieces_20 joints_21 nodes x1 i3_14 _ sz) h rfl rfl rfl rfl rfl rfl (Nat.le_of_ble_eq_true rfl) ⟨Nat.zero_le _, Nat.zero_le _⟩ (q0 := 0) rfl rfl (fun r_28 h => ?_)
        refine jn3_use (fun (z_29 : Int32) (group_30 : Nat → Int32) (many_31 : Nat → Int32) => AW p l e R s m args below meth c D A B 5 Q 0 0 (w_Model_split cI cJ cZ a_t a_ends a_there a_one a_two a_what a_piece a_kinds a_group a_many a_pieceOf a_numberOf a_ups a_jointUp a_partner a_beyonds a_gone thrown made tree items_15 one_16 two_17 what_18 piece_19 pieces_20 joints_21 group_30 many_31 nodes) [(0, .ref a_t), (1, .int x1), (2, .int i2_1), (3, .int i3_14)] 47 [.int z_29]) h ?_ ?_
        · intro z_29 group_30 many_31 h
          refine A_istore K d_Model_split 29 (pc' := 49) (lv' := [(4, .int z_29), (0, .ref a_t), (1, .int x1), (2, .int i2_1), (3, .int i3_14)]) rfl rfl (by decide) rfl ?_
          refine A_iload K d_Model_split 30 0 (pc' := 51) rfl rfl rfl ?_
          refine A_if_lt K d_Model_split 31 65 (pc' := 54) rfl rfl rfl (fun q => ?_) (fun q => ?_)
          · replace h := h.1 q
            refine A_iinc K d_Model_split 40 4 (pc' := 68) (v := i3_14 + 1) (lv' := [(3, .int (i3_14 + 1)), (4, .int z_29), (0, .ref a_t), (1, .int x1), (2, .int i2_1)]) rfl rfl rfl rfl (by decide) rfl ?_
            refine A_goto K d_Model_split 41 (pc' := 12) rfl rfl ?_
            refine A_lv [2, 3, 4, 0] rfl ?_
            exact ih_25 _ _ _ _ _ _ _ _ _ _ h
          · replace h := h.2 q
            refine A_aload_n K d_Model_split 32 1 (pc' := 55) rfl rfl rfl rfl ?_
            refine A_iload_n K d_Model_split 33 2 (pc' := 56) rfl rfl rfl rfl ?_
            refine A_iload_n K d_Model_split 34 3 (pc' := 57) rfl rfl rfl rfl ?_
            refine A_iload_n K d_Model_split 35 4 (pc' := 58) rfl rfl rfl rfl ?_
            refine A_iload K d_Model_split 36 0 (pc' := 60) rfl rfl rfl ?_
            refine C_Vv7 K hBA d_Model_split 37 [0, 1, 2, 3, 4, 5] [some 0, some 1, some 2, some 3, some 4, some 5, none] (As := [.int x1, .int i2_1, .int i3_14, .int z_29]) (rest := []) (pc' := 63) (wl := fun items_37 one_38 two_39 what_40 piece_41 pieces_42 joints_43 => w_Model_move cI cJ cZ a_t a_ends a_there a_one a_two a_what a_piece a_kinds a_group a_many a_pieceOf a_numberOf a_ups a_jointUp a_partner a_beyonds a_gone thrown made tree items_37 one_38 two_39 what_40 piece_41 pieces_42 joints_43 group_30 nodes) (ws' := fun items_37 one_38 two_39 what_40 piece_41 pieces_42 joints_43 => w_Model_split cI cJ cZ a_t a_ends a_there a_one a_two a_what a_piece a_kinds a_group a_many a_pieceOf a_numberOf a_ups a_jointUp a_partner a_beyonds a_gone thrown made tree items_37 one_38 two_39 what_40 piece_41 pieces_42 joints_43 group_30 many_31 nodes) v_Model_126 ⟨rfl, rfl, Nat.le_trans (Nat.le_of_ble_eq_true rfl) hR1, Nat.le_trans (Nat.le_of_ble_eq_true rfl) hR2⟩ (fun sz => met_Model_move l D cI cJ cZ a_t a_ends a_there a_one a_two a_what a_piece a_kinds a_group a_many a_pieceOf a_numberOf a_ups a_jointUp a_partner a_beyonds a_gone thrown made tree items_15 one_16 two_17 what_18 piece_19 pieces_20 joints_21 group_30 nodes x1 i2_1 i3_14 z_29 _ sz) h rfl rfl rfl rfl rfl (fun _ _ _ _ _ _ _ => rfl) rfl (by decide) (Nat.le_of_ble_eq_true rfl) ⟨Nat.zero_le _, Nat.zero_le _⟩ (q0 := 0) rfl rfl (fun _ _ _ _ _ _ _ => rfl) (fun items_37 one_38 two_39 what_40 piece_41 pieces_42 joints_43 h => ?_)
            refine A_iconst K d_Model_split 38 (pc' := 64) (v := 1) rfl rfl (by decide) ?_
            exact hend 39 _ _ _ _ _ _ _ _ _ _ _ _ rfl (Or.inr rfl) h
        · intro J_32 hJ_33 h
          refine A_if_eq K d_Model_split 21 46 (pc' := 36) rfl rfl rfl (fun q => ?_) (fun q => ?_)
          · replace h := h.1 q
            refine A_iconst K d_Model_split 28 (pc' := 47) (v := (-1)) rfl rfl (by decide) ?_
            refine A_lv [0, 1, 2, 3] rfl ?_
            exact hJ_33 _ _ _ h
          · replace h := h.2 q
            refine A_aload_n K d_Model_split 22 0 (pc' := 37) rfl rfl rfl rfl ?_
            refine A_iload_n K d_Model_split 23 1 (pc' := 38) rfl rfl rfl rfl ?_
            refine A_iload_n K d_Model_split 24 2 (pc' := 39) rfl rfl rfl rfl ?_
            refine A_iload_n K d_Model_split 25 3 (pc' := 40) rfl rfl rfl rfl ?_
            refine C_Vi2 K hBA d_Model_split 26 [0, 1, 2, 4, 5, 6] [some 0, some 1, some 2, none, some 3, some 4, some 5] (As := [.int x1, .int i2_1, .int i3_14]) (rest := []) (pc' := 43) (wl := fun group_34 many_35 => w_Model_partOf cI cJ cZ a_t a_ends a_there a_one a_two a_what a_piece a_kinds a_group a_many a_pieceOf a_numberOf a_ups a_jointUp a_partner a_beyonds a_gone thrown made tree items_15 one_16 two_17 piece_19 pieces_20 joints_21 group_34 many_35 nodes) (ws' := fun group_34 many_35 => w_Model_split cI cJ cZ a_t a_ends a_there a_one a_two a_what a_piece a_kinds a_group a_many a_pieceOf a_numberOf a_ups a_jointUp a_partner a_beyonds a_gone thrown made tree items_15 one_16 two_17 what_18 piece_19 pieces_20 joints_21 group_34 many_35 nodes) v_Model_123 ⟨rfl, rfl, Nat.le_trans (Nat.le_of_ble_eq_true rfl) hR1, Nat.le_trans (Nat.le_of_ble_eq_true rfl) hR2⟩ (fun sz => met_Model_partOf l D cI cJ cZ a_t a_ends a_there a_one a_two a_what a_piece a_kinds a_group a_many a_pieceOf a_numberOf a_ups a_jointUp a_partner a_beyonds a_gone thrown made tree items_15 one_16 two_17 piece_19 pieces_20 joints_21 group_22 many_23 nodes x1 i2_1 i3_14 _ sz) h rfl rfl rfl rfl rfl (fun _ _ => rfl) rfl (by decide) (Nat.le_of_ble_eq_true rfl) ⟨Nat.zero_le _, Nat.zero_le _⟩ (q0 := 0) rfl rfl (fun _ _ => rfl) (fun r_36 group_34 many_35 h => ?_)
            refine A_goto K d_Model_split 27 (pc' := 47) rfl rfl ?_
            refine A_lv [0, 1, 2, 3] rfl ?_
            exact hJ_33 _ _ _ h
theorem met_Model_split (l : Launch) (D : va_G) (cI cJ cZ : ClassId) (a_t a_ends a_there a_one a_two a_what a_piece a_kinds a_group a_many a_pieceOf a_numberOf a_ups a_jointUp a_partner a_beyonds a_gone : Nat) (thrown : Int32) (made : Int32) (tree : Int32) (items : Int32) (one : Nat → Int32) (two : Nat → Int32) (what : Nat → Int32) (piece : Nat → Int32) (pieces : Int32) (joints : Int32) (group : Nat → Int32) (many : Nat → Int32) (nodes : Int32) (x1 : Int32) (post : Int32 → Int32 → (Nat → Int32) → (Nat → Int32) → (Nat → Int32) → (Nat → Int32) → Int32 → Int32 → (Nat → Int32) → (Nat → Int32) → Prop) (sz : Nat) : Met l y_Model_split (Cond.code y_Model_split c_Model_split 5 (Option.some Jvm.ClassFile.FieldType.boolean) :: GW) { frames := 5, cells := 0, slots := 0, locals := 120 } (va_Pc [.ref a_t, .int x1] (fun U => sk_P D (tyl cI cJ cZ) (w_Model_split cI cJ cZ a_t a_ends a_there a_one a_two a_what a_piece a_kinds a_group a_many a_pieceOf a_numberOf a_ups a_jointUp a_partner a_beyonds a_gone thrown made tree items one two what piece pieces joints group many nodes) sz U ∧ wp_Model_split items one two what piece pieces joints group many x1 post)) (va_Qi (fun (r : Int32) (u : Int32 × (Nat → Int32) × (Nat → Int32) × (Nat → Int32) × (Nat → Int32) × Int32 × Int32 × (Nat → Int32) × (Nat → Int32)) => post r u.1 u.2.1 u.2.2.1 u.2.2.2.1 u.2.2.2.2.1 u.2.2.2.2.2.1 u.2.2.2.2.2.2.1 u.2.2.2.2.2.2.2.1 u.2.2.2.2.2.2.2.2) (fun u t => sk_B D (tyl cI cJ cZ) (w_Model_split cI cJ cZ a_t a_ends a_there a_one a_two a_what a_piece a_kinds a_group a_many a_pieceOf a_numberOf a_ups a_jointUp a_partner a_beyonds a_gone thrown made tree u.1 u.2.1 u.2.2.1 u.2.2.2.1 u.2.2.2.2.1 u.2.2.2.2.2.1 u.2.2.2.2.2.2.1 u.2.2.2.2.2.2.2.1 u.2.2.2.2.2.2.2.2 nodes) (va_A (w_Model_split cI cJ cZ a_t a_ends a_there a_one a_two a_what a_piece a_kinds a_group a_many a_pieceOf a_numberOf a_ups a_jointUp a_partner a_beyonds a_gone thrown made tree items one two what piece pieces joints group many nodes) sz) t) (va_A (w_Model_split cI cJ cZ a_t a_ends a_there a_one a_two a_what a_piece a_kinds a_group a_many a_pieceOf a_numberOf a_ups a_jointUp a_partner a_beyonds a_gone thrown made tree items one two what piece pieces joints group many nodes) sz)) 0 0 (va_A (w_Model_split cI cJ cZ a_t a_ends a_there a_one a_two a_what a_piece a_kinds a_group a_many a_pieceOf a_numberOf a_ups a_jointUp a_partner a_beyonds a_gone thrown made tree items one two what piece pieces joints group many nodes) sz) :=
  sk_intro (by decide) (Nat.le_of_ble_eq_true rfl) (fun p e s m below meth c K hr _ h => bd_Model_split K (Nat.le_refl _) (Nat.le_refl _) (fun _ z => z) (fun ti pc r y0 y1 y2 y3 y4 y5 y6 y7 y8 lv hd hb hp => A_zret K d_Model_split ti hr (post := (fun (r : Int32) (u : Int32 × (Nat → Int32) × (Nat → Int32) × (Nat → Int32) × (Nat → Int32) × Int32 × Int32 × (Nat → Int32) × (Nat → Int32)) => post r u.1 u.2.1 u.2.2.1 u.2.2.2.1 u.2.2.2.2.1 u.2.2.2.2.2.1 u.2.2.2.2.2.2.1 u.2.2.2.2.2.2.2.1 u.2.2.2.2.2.2.2.2)) (wl := fun (u : Int32 × (Nat → Int32) × (Nat → Int32) × (Nat → Int32) × (Nat → Int32) × Int32 × Int32 × (Nat → Int32) × (Nat → Int32)) => w_Model_split cI cJ cZ a_t a_ends a_there a_one a_two a_what a_piece a_kinds a_group a_many a_pieceOf a_numberOf a_ups a_jointUp a_partner a_beyonds a_gone thrown made tree u.1 u.2.1 u.2.2.1 u.2.2.2.1 u.2.2.2.2.1 u.2.2.2.2.2.1 u.2.2.2.2.2.2.1 u.2.2.2.2.2.2.2.1 u.2.2.2.2.2.2.2.2 nodes) (y0, y1, y2, y3, y4, y5, y6, y7, y8) hd hb hp) h)
/-! SkeletonTreeModel.pointsOf(I)I -/
def t_Model_pointsOf : List (Nat × Instr × Nat) := [(0, .iconst 0, 1), (1, .istore_n 2, 1), (2, .iconst 0, 1), (3, .istore_n 3, 1), (4, .iload_n 3, 1), (5, .bipush 40, 2), (7, .if_icmp .ge 26, 3), (10, .aload_n 0, 1), (11, .iload_n 1, 1), (12, .iload_n 3, 1), (13, .invokevirtual 120, 3), (16, .ifCond .eq 9, 3), (19, .iload_n 2, 1), (20, .iconst 1, 1), (21, .iadd, 1), (22, .goto 4, 3), (25, .iload_n 2, 1), (26, .istore_n 2, 1), (27, .iinc 3 1, 3), (30, .goto (-26), 3), (33, .iload_n 2, 1), (34, .ireturn, 1)]
set_option maxRecDepth 100000 in
theorem d_Model_pointsOf : sk_T c_Model_pointsOf t_Model_pointsOf := by unfold sk_T t_Model_pointsOf; decide +kernel
def w_Model_pointsOf (cI cJ cZ : ClassId) (a_t a_ends a_there a_one a_two a_what a_piece a_kinds a_group a_many a_pieceOf a_numberOf a_ups a_jointUp a_partner a_beyonds a_gone : Nat) (thrown : Int32) (made : Int32) (tree : Int32) (items : Int32) (one : Nat → Int32) (two : Nat → Int32) (piece : Nat → Int32) (pieces : Int32) (joints : Int32) (nodes : Int32) : va_W := [(a_t, .inr (5, [.int thrown, .int made, .ref a_ends, .ref a_there, .int tree, .int items, .ref a_one, .ref a_two, .ref a_what, .ref a_piece, .int pieces, .int joints, .ref a_kinds, .ref a_group, .ref a_many, .int nodes, .ref a_pieceOf, .ref a_numberOf, .ref a_ups, .ref a_jointUp, .ref a_partner, .ref a_beyonds, .ref a_gone])), (a_one, .inl (cI, 320, .inl one)), (a_two, .inl (cI, 320, .inl two)), (a_piece, .inl (cI, 320, .inl piece))]
def wp_Model_pointsOf  (items : Int32) (one : Nat → Int32) (two : Nat → Int32) (piece : Nat → Int32) (x1 : Int32) (post : Int32 → Prop) : Prop :=
  ∃ n, sL2 (fun (K_3 : Int32 → Int32 → Prop) (i2_1 : Int32) (i3_2 : Int32) => (40 ≤ i3_2 → post i2_1 ) ∧ (¬ 40 ≤ i3_2 → wp_Model_hasPoint items one two piece x1 i3_2 (fun r_6 => (r_6 = 0 → K_3 i2_1 (i3_2 + 1)) ∧ (¬ r_6 = 0 → K_3 (i2_1 + 1) (i3_2 + 1))))) n 0 0
set_option maxHeartbeats 4000000 in
set_option maxRecDepth 100000 in
theorem bd_Model_pointsOf {p : Program} {l : Launch} {e : Env} {R : Room} {s : State} {m : MethodId} {args : Array Value} {below : List Frame} {meth : Method} {c : Code} {D : va_G} {A B : Nat → Prop} {Q : State → Prop} {cI cJ cZ : ClassId} {a_t a_ends a_there a_one a_two a_what a_piece a_kinds a_group a_many a_pieceOf a_numberOf a_ups a_jointUp a_partner a_beyonds a_gone : Nat} {thrown : Int32} {made : Int32} {tree : Int32} {items : Int32} {one : Nat → Int32} {two : Nat → Int32} {piece : Nat → Int32} {pieces : Int32} {joints : Int32} {nodes : Int32} {x1 : Int32} (K : sk_C p s m args meth c c_Model_pointsOf 4 "SkeletonTreeModel" D (tyl cI cJ cZ)) (hR1 : 2 ≤ R.frames) (hR2 : 45 ≤ R.locals) {post : Int32 → Prop} (hend : ∀ (ti pc : Nat) (r : Int32)  (lv : List (Nat × Value)), t_Model_pointsOf[ti]? = some (pc, .ireturn, 1) → post r  → AW p l e R s m args below meth c D A B 4 Q 0 0 (w_Model_pointsOf cI cJ cZ a_t a_ends a_there a_one a_two a_what a_piece a_kinds a_group a_many a_pieceOf a_numberOf a_ups a_jointUp a_partner a_beyonds a_gone thrown made tree items one two piece pieces joints nodes) lv pc [.int r]) (h : wp_Model_pointsOf items one two piece x1 post) : AW p l e R s m args below meth c D A B 4 Q 0 0 (w_Model_pointsOf cI cJ cZ a_t a_ends a_there a_one a_two a_what a_piece a_kinds a_group a_many a_pieceOf a_numberOf a_ups a_jointUp a_partner a_beyonds a_gone thrown made tree items one two piece pieces joints nodes) [(0, .ref a_t), (1, .int x1)] 0 [] := by
  unfold wp_Model_pointsOf at h
  refine A_iconst K d_Model_pointsOf 0 (pc' := 1) (v := 0) rfl rfl (by decide) ?_
  refine A_istore_n K d_Model_pointsOf 1 (pc' := 2) (lv' := [(2, .int 0), (0, .ref a_t), (1, .int x1)]) rfl rfl rfl (by decide) rfl ?_
  refine A_iconst K d_Model_pointsOf 2 (pc' := 3) (v := 0) rfl rfl (by decide) ?_
  refine A_istore_n K d_Model_pointsOf 3 (pc' := 4) (lv' := [(3, .int 0), (2, .int 0), (0, .ref a_t), (1, .int x1)]) rfl rfl rfl (by decide) rfl ?_
  refine A_lv [2, 3, 1, 0] rfl ?_
  obtain ⟨n_5, h⟩ := h
  refine sL2_ind (fun (i2_1 : Int32) (i3_2 : Int32) => AW p l e R s m args below meth c D A B 4 Q 0 0 (w_Model_pointsOf cI cJ cZ a_t a_ends a_there a_one a_two a_what a_piece a_kinds a_group a_many a_pieceOf a_numberOf a_ups a_jointUp a_partner a_beyonds a_gone thrown made tree items one two piece pieces joints nodes) [(0, .ref a_t), (1, .int x1), (2, .int i2_1), (3, .int i3_2)] 4 []) ?_ n_5 _ _ h
  intro K_3 ih_4 i2_1 i3_2 h
  refine A_iload_n K d_Model_pointsOf 4 3 (pc' := 5) rfl rfl rfl rfl ?_
  refine A_bipush K d_Model_pointsOf 5 (pc' := 7) (v := 40) rfl rfl (by decide) ?_
  refine A_icmp_ge K d_Model_pointsOf 6 33 (pc' := 10) rfl rfl rfl (fun q => ?_) (fun q => ?_)
  · replace h := h.1 q
    refine A_iload_n K d_Model_pointsOf 20 2 (pc' := 34) rfl rfl rfl rfl ?_
    exact hend 21 _ _ _ rfl h
  · replace h := h.2 q
    refine A_aload_n K d_Model_pointsOf 7 0 (pc' := 11) rfl rfl rfl rfl ?_
    refine A_iload_n K d_Model_pointsOf 8 1 (pc' := 12) rfl rfl rfl rfl ?_
    refine A_iload_n K d_Model_pointsOf 9 3 (pc' := 13) rfl rfl rfl rfl ?_
    refine R_callV_i K d_Model_pointsOf 10 [0, 1, 2, 3] (As := [.int x1, .int i3_2]) (rest := []) (pc' := 16) v_Model_120 ⟨rfl, rfl, Nat.le_trans (Nat.le_of_ble_eq_true rfl) hR1, Nat.le_trans (Nat.le_of_ble_eq_true rfl) hR2⟩ (fun sz => met_Model_hasPoint l D cI cJ cZ a_t a_ends a_there a_one a_two a_what a_piece a_kinds a_group a_many a_pieceOf a_numberOf a_ups a_jointUp a_partner a_beyonds a_gone thrown made tree items one two piece pieces joints nodes x1 i3_2 _ sz) h rfl rfl rfl rfl rfl rfl (Nat.le_of_ble_eq_true rfl) ⟨Nat.zero_le _, Nat.zero_le _⟩ (q0 := 0) rfl rfl (fun r_6 h => ?_)
    refine A_if_eq K d_Model_pointsOf 11 25 (pc' := 19) rfl rfl rfl (fun q => ?_) (fun q => ?_)
    · replace h := h.1 q
      refine A_iload_n K d_Model_pointsOf 16 2 (pc' := 26) rfl rfl rfl rfl ?_
      refine A_istore_n K d_Model_pointsOf 17 (pc' := 27) (lv' := [(2, .int i2_1), (0, .ref a_t), (1, .int x1), (3, .int i3_2)]) rfl rfl rfl (by decide) rfl ?_
      refine A_iinc K d_Model_pointsOf 18 3 (pc' := 30) (v := i3_2 + 1) (lv' := [(3, .int (i3_2 + 1)), (2, .int i2_1), (0, .ref a_t), (1, .int x1)]) rfl rfl rfl rfl (by decide) rfl ?_
      refine A_goto K d_Model_pointsOf 19 (pc' := 4) rfl rfl ?_
      refine A_lv [2, 3, 1, 0] rfl ?_
      exact ih_4 _ _ h
    · replace h := h.2 q
      refine A_iload_n K d_Model_pointsOf 12 2 (pc' := 20) rfl rfl rfl rfl ?_
      refine A_iconst K d_Model_pointsOf 13 (pc' := 21) (v := 1) rfl rfl (by decide) ?_
      refine A_iadd K d_Model_pointsOf 14 (pc' := 22) rfl rfl ?_
      refine A_goto K d_Model_pointsOf 15 (pc' := 26) rfl rfl ?_
      refine A_istore_n K d_Model_pointsOf 17 (pc' := 27) (lv' := [(2, .int (i2_1 + 1)), (0, .ref a_t), (1, .int x1), (3, .int i3_2)]) rfl rfl rfl (by decide) rfl ?_
      refine A_iinc K d_Model_pointsOf 18 3 (pc' := 30) (v := i3_2 + 1) (lv' := [(3, .int (i3_2 + 1)), (2, .int (i2_1 + 1)), (0, .ref a_t), (1, .int x1)]) rfl rfl rfl rfl (by decide) rfl ?_
      refine A_goto K d_Model_pointsOf 19 (pc' := 4) rfl rfl ?_
      refine A_lv [2, 3, 1, 0] rfl ?_
      exact ih_4 _ _ h
theorem met_Model_pointsOf (l : Launch) (D : va_G) (cI cJ cZ : ClassId) (a_t a_ends a_there a_one a_two a_what a_piece a_kinds a_group a_many a_pieceOf a_numberOf a_ups a_jointUp a_partner a_beyonds a_gone : Nat) (thrown : Int32) (made : Int32) (tree : Int32) (items : Int32) (one : Nat → Int32) (two : Nat → Int32) (piece : Nat → Int32) (pieces : Int32) (joints : Int32) (nodes : Int32) (x1 : Int32) (post : Int32 → Prop) (sz : Nat) : Met l y_Model_pointsOf (Cond.code y_Model_pointsOf c_Model_pointsOf 4 (Option.some Jvm.ClassFile.FieldType.int) :: GW) { frames := 2, cells := 0, slots := 0, locals := 45 } (va_Pc [.ref a_t, .int x1] (fun U => sk_P D (tyl cI cJ cZ) (w_Model_pointsOf cI cJ cZ a_t a_ends a_there a_one a_two a_what a_piece a_kinds a_group a_many a_pieceOf a_numberOf a_ups a_jointUp a_partner a_beyonds a_gone thrown made tree items one two piece pieces joints nodes) sz U ∧ wp_Model_pointsOf items one two piece x1 post)) (va_Qi (fun (r : Int32) (_ : Unit) => post r) (fun _ t => sk_B D (tyl cI cJ cZ) (w_Model_pointsOf cI cJ cZ a_t a_ends a_there a_one a_two a_what a_piece a_kinds a_group a_many a_pieceOf a_numberOf a_ups a_jointUp a_partner a_beyonds a_gone thrown made tree items one two piece pieces joints nodes) (fun _ => True) t) (fun q => sz ≤ q)) 0 0 (fun q => sz ≤ q) :=
  sk_introR (by decide) (Nat.le_of_ble_eq_true rfl) (fun p e s m below meth c K hr _ h => bd_Model_pointsOf K (Nat.le_refl _) (Nat.le_refl _) (fun ti pc r  lv hd hp => A_iret K d_Model_pointsOf ti hr (post := (fun (r : Int32) (_ : Unit) => post r)) (wl := fun (_ : Unit) => w_Model_pointsOf cI cJ cZ a_t a_ends a_there a_one a_two a_what a_piece a_kinds a_group a_many a_pieceOf a_numberOf a_ups a_jointUp a_partner a_beyonds a_gone thrown made tree items one two piece pieces joints nodes) () hd hp) h)
/-! SkeletonTreeModel.itemOf(II)I -/
def t_Model_itemOf : List (Nat × Instr × Nat) := [(0, .iload_n 2, 1), (1, .iconst 1, 1), (2, .iadd, 1), (3, .istore_n 3, 1), (4, .aload_n 0, 1), (5, .getfield 23, 3), (8, .iload_n 3, 1), (9, .iaload, 1), (10, .iconst (-1), 1), (11, .iload_n 1, 1), (12, .isub, 1), (13, .if_icmp .eq 9, 3), (16, .iinc 3 1, 3), (19, .goto (-15), 3), (22, .iload_n 3, 1), (23, .ireturn, 1)]
set_option maxRecDepth 100000 in
theorem d_Model_itemOf : sk_T c_Model_itemOf t_Model_itemOf := by unfold sk_T t_Model_itemOf; decide +kernel
def w_Model_itemOf (cI cJ cZ : ClassId) (a_t a_ends a_there a_one a_two a_what a_piece a_kinds a_group a_many a_pieceOf a_numberOf a_ups a_jointUp a_partner a_beyonds a_gone : Nat) (thrown : Int32) (made : Int32) (tree : Int32) (items : Int32) (what : Nat → Int32) (pieces : Int32) (joints : Int32) (nodes : Int32) : va_W := [(a_t, .inr (5, [.int thrown, .int made, .ref a_ends, .ref a_there, .int tree, .int items, .ref a_one, .ref a_two, .ref a_what, .ref a_piece, .int pieces, .int joints, .ref a_kinds, .ref a_group, .ref a_many, .int nodes, .ref a_pieceOf, .ref a_numberOf, .ref a_ups, .ref a_jointUp, .ref a_partner, .ref a_beyonds, .ref a_gone])), (a_what, .inl (cI, 320, .inl what))]
def wp_Model_itemOf  (what : Nat → Int32) (x1 : Int32) (x2 : Int32) (post : Int32 → Prop) : Prop :=
  ∃ n, sL1 (fun (K_2 : Int32 → Prop) (i3_1 : Int32) => vp_in i3_1 320 ∧ ((what (ix i3_1)) = ((-1) - x1) → post i3_1 ) ∧ (¬ (what (ix i3_1)) = ((-1) - x1) → K_2 (i3_1 + 1))) n (x2 + 1)
set_option maxHeartbeats 4000000 in
set_option maxRecDepth 100000 in
theorem bd_Model_itemOf {p : Program} {l : Launch} {e : Env} {R : Room} {s : State} {m : MethodId} {args : Array Value} {below : List Frame} {meth : Method} {c : Code} {D : va_G} {A B : Nat → Prop} {Q : State → Prop} {cI cJ cZ : ClassId} {a_t a_ends a_there a_one a_two a_what a_piece a_kinds a_group a_many a_pieceOf a_numberOf a_ups a_jointUp a_partner a_beyonds a_gone : Nat} {thrown : Int32} {made : Int32} {tree : Int32} {items : Int32} {what : Nat → Int32} {pieces : Int32} {joints : Int32} {nodes : Int32} {x1 : Int32} {x2 : Int32} (K : sk_C p s m args meth c c_Model_itemOf 4 "SkeletonTreeModel" D (tyl cI cJ cZ)) (hR1 : 0 ≤ R.frames) (hR2 : 0 ≤ R.locals) {post : Int32 → Prop} (hend : ∀ (ti pc : Nat) (r : Int32)  (lv : List (Nat × Value)), t_Model_itemOf[ti]? = some (pc, .ireturn, 1) → post r  → AW p l e R s m args below meth c D A B 4 Q 0 0 (w_Model_itemOf cI cJ cZ a_t a_ends a_there a_one a_two a_what a_piece a_kinds a_group a_many a_pieceOf a_numberOf a_ups a_jointUp a_partner a_beyonds a_gone thrown made tree items what pieces joints nodes) lv pc [.int r]) (h : wp_Model_itemOf what x1 x2 post) : AW p l e R s m args below meth c D A B 4 Q 0 0 (w_Model_itemOf cI cJ cZ a_t a_ends a_there a_one a_two a_what a_piece a_kinds a_group a_many a_pieceOf a_numberOf a_ups a_jointUp a_partner a_beyonds a_gone thrown made tree items what pieces joints nodes) [(0, .ref a_t), (1, .int x1), (2, .int x2)] 0 [] := by
  unfold wp_Model_itemOf at h
  refine A_iload_n K d_Model_itemOf 0 2 (pc' := 1) rfl rfl rfl rfl ?_
  refine A_iconst K d_Model_itemOf 1 (pc' := 2) (v := 1) rfl rfl (by decide) ?_
  refine A_iadd K d_Model_itemOf 2 (pc' := 3) rfl rfl ?_
  refine A_istore_n K d_Model_itemOf 3 (pc' := 4) (lv' := [(3, .int (x2 + 1)), (0, .ref a_t), (1, .int x1), (2, .int x2)]) rfl rfl rfl (by decide) rfl ?_
  refine A_lv [1, 2, 0] rfl ?_
  obtain ⟨n_4, h⟩ := h
  refine sL1_ind (fun (i3_1 : Int32) => AW p l e R s m args below meth c D A B 4 Q 0 0 (w_Model_itemOf cI cJ cZ a_t a_ends a_there a_one a_two a_what a_piece a_kinds a_group a_many a_pieceOf a_numberOf a_ups a_jointUp a_partner a_beyonds a_gone thrown made tree items what pieces joints nodes) [(0, .ref a_t), (1, .int x1), (3, .int i3_1)] 4 []) ?_ n_4 _ h
  intro K_2 ih_3 i3_1 h
  refine A_aload_n K d_Model_itemOf 4 0 (pc' := 5) rfl rfl rfl rfl ?_
  refine A_get K d_Model_itemOf 5 0 fl_Model_23 (pc' := 8) rfl rfl rfl rfl ?_
  refine A_iload_n K d_Model_itemOf 6 2 (pc' := 9) rfl rfl rfl rfl ?_
  refine A_iald K d_Model_itemOf 7 1 0 (pc' := 10) rfl rfl rfl rfl h.1 ?_
  replace h := h.2
  refine A_iconst K d_Model_itemOf 8 (pc' := 11) (v := (-1)) rfl rfl (by decide) ?_
  refine A_iload_n K d_Model_itemOf 9 1 (pc' := 12) rfl rfl rfl rfl ?_
  refine A_isub K d_Model_itemOf 10 (pc' := 13) rfl rfl ?_
  refine A_icmp_eq K d_Model_itemOf 11 22 (pc' := 16) rfl rfl rfl (fun q => ?_) (fun q => ?_)
  · replace h := h.1 q
    refine A_iload_n K d_Model_itemOf 14 2 (pc' := 23) rfl rfl rfl rfl ?_
    exact hend 15 _ _ _ rfl h
  · replace h := h.2 q
    refine A_iinc K d_Model_itemOf 12 2 (pc' := 19) (v := i3_1 + 1) (lv' := [(3, .int (i3_1 + 1)), (0, .ref a_t), (1, .int x1)]) rfl rfl rfl rfl (by decide) rfl ?_
    refine A_goto K d_Model_itemOf 13 (pc' := 4) rfl rfl ?_
    refine A_lv [1, 2, 0] rfl ?_
    exact ih_3 _ h
theorem met_Model_itemOf (l : Launch) (D : va_G) (cI cJ cZ : ClassId) (a_t a_ends a_there a_one a_two a_what a_piece a_kinds a_group a_many a_pieceOf a_numberOf a_ups a_jointUp a_partner a_beyonds a_gone : Nat) (thrown : Int32) (made : Int32) (tree : Int32) (items : Int32) (what : Nat → Int32) (pieces : Int32) (joints : Int32) (nodes : Int32) (x1 : Int32) (x2 : Int32) (post : Int32 → Prop) (sz : Nat) : Met l y_Model_itemOf (Cond.code y_Model_itemOf c_Model_itemOf 4 (Option.some Jvm.ClassFile.FieldType.int) :: GW) { frames := 0, cells := 0, slots := 0, locals := 0 } (va_Pc [.ref a_t, .int x1, .int x2] (fun U => sk_P D (tyl cI cJ cZ) (w_Model_itemOf cI cJ cZ a_t a_ends a_there a_one a_two a_what a_piece a_kinds a_group a_many a_pieceOf a_numberOf a_ups a_jointUp a_partner a_beyonds a_gone thrown made tree items what pieces joints nodes) sz U ∧ wp_Model_itemOf what x1 x2 post)) (va_Qi (fun (r : Int32) (_ : Unit) => post r) (fun _ t => sk_B D (tyl cI cJ cZ) (w_Model_itemOf cI cJ cZ a_t a_ends a_there a_one a_two a_what a_piece a_kinds a_group a_many a_pieceOf a_numberOf a_ups a_jointUp a_partner a_beyonds a_gone thrown made tree items what pieces joints nodes) (fun _ => True) t) (fun q => sz ≤ q)) 0 0 (fun q => sz ≤ q) :=
  sk_introR (by decide) (Nat.le_of_ble_eq_true rfl) (fun p e s m below meth c K hr _ h => bd_Model_itemOf K (Nat.le_refl _) (Nat.le_refl _) (fun ti pc r  lv hd hp => A_iret K d_Model_itemOf ti hr (post := (fun (r : Int32) (_ : Unit) => post r)) (wl := fun (_ : Unit) => w_Model_itemOf cI cJ cZ a_t a_ends a_there a_one a_two a_what a_piece a_kinds a_group a_many a_pieceOf a_numberOf a_ups a_jointUp a_partner a_beyonds a_gone thrown made tree items what pieces joints nodes) () hd hp) h)
/-! SkeletonTreeModel.putTogether()V -/
def t_Model_putTogether : List (Nat × Instr × Nat) := [(0, .iconst 0, 1), (1, .istore_n 1, 1), (2, .iload_n 1, 1), (3, .aload_n 0, 1), (4, .getfield 133, 3), (7, .if_icmp .ge 130, 3), (10, .aload_n 0, 1), (11, .iload_n 1, 1), (12, .iconst (-1), 1), (13, .invokevirtual 139, 3), (16, .istore_n 2, 1), (17, .aload_n 0, 1), (18, .iload_n 1, 1), (19, .iload_n 2, 1), (20, .invokevirtual 139, 3), (23, .istore_n 3, 1), (24, .aload_n 0, 1), (25, .getfield 26, 3), (28, .iload_n 2, 1), (29, .iaload, 1), (30, .istore 4, 2), (32, .aload_n 0, 1), (33, .getfield 26, 3), (36, .iload_n 3, 1), (37, .iaload, 1), (38, .istore 5, 2), (40, .aload_n 0, 1), (41, .getfield 29, 3), (44, .iload 4, 2), (46, .iaload, 1), (47, .aload_n 0, 1), (48, .getfield 29, 3), (51, .iload 5, 2), (53, .iaload, 1), (54, .if_icmp .ne 77, 3), (57, .aload_n 0, 1), (58, .getfield 29, 3), (61, .iload 4, 2), (63, .iaload, 1), (64, .iconst 2, 1), (65, .if_icmp .ge 66, 3), (68, .aload_n 0, 1), (69, .getfield 26, 3), (72, .iload_n 2, 1), (73, .iconst (-1), 1), (74, .iastore, 1), (75, .aload_n 0, 1), (76, .getfield 26, 3), (79, .iload_n 3, 1), (80, .iconst (-1), 1), (81, .iastore, 1), (82, .iconst 0, 1), (83, .istore 6, 2), (85, .iload 6, 2), (87, .aload_n 0, 1), (88, .getfield 98, 3), (91, .if_icmp .ge 40, 3), (94, .aload_n 0, 1), (95, .getfield 26, 3), (98, .iload 6, 2), (100, .aload_n 0, 1), (101, .getfield 26, 3), (104, .iload 6, 2), (106, .iaload, 1), (107, .iload 5, 2), (109, .if_icmp .ne 8, 3), (112, .iload 4, 2), (114, .goto 10, 3), (117, .aload_n 0, 1), (118, .getfield 26, 3), (121, .iload 6, 2), (123, .iaload, 1), (124, .iastore, 1), (125, .iinc 6 1, 3), (128, .goto (-43), 3), (131, .iinc 1 1, 3), (134, .goto (-132), 3), (137, .return_, 1)]
set_option maxRecDepth 100000 in
theorem d_Model_putTogether : sk_T c_Model_putTogether t_Model_putTogether := by unfold sk_T t_Model_putTogether; decide +kernel
def w_Model_putTogether (cI cJ cZ : ClassId) (a_t a_ends a_there a_one a_two a_what a_piece a_kinds a_group a_many a_pieceOf a_numberOf a_ups a_jointUp a_partner a_beyonds a_gone : Nat) (thrown : Int32) (made : Int32) (tree : Int32) (items : Int32) (what : Nat → Int32) (piece : Nat → Int32) (pieces : Int32) (joints : Int32) (kinds : Nat → Int32) (nodes : Int32) : va_W := [(a_t, .inr (5, [.int thrown, .int made, .ref a_ends, .ref a_there, .int tree, .int items, .ref a_one, .ref a_two, .ref a_what, .ref a_piece, .int pieces, .int joints, .ref a_kinds, .ref a_group, .ref a_many, .int nodes, .ref a_pieceOf, .ref a_numberOf, .ref a_ups, .ref a_jointUp, .ref a_partner, .ref a_beyonds, .ref a_gone])), (a_what, .inl (cI, 320, .inl what)), (a_piece, .inl (cI, 320, .inl piece)), (a_kinds, .inl (cI, 110, .inl kinds))]
def wp_Model_putTogether  (items : Int32) (what : Nat → Int32) (piece : Nat → Int32) (joints : Int32) (kinds : Nat → Int32)  (post : (Nat → Int32) → Prop) : Prop :=
  ∃ n, sL2 (fun (K_3 : Int32 → (Nat → Int32) → Prop) (i1_1 : Int32) (piece_2 : Nat → Int32) => (joints ≤ i1_1 → post piece_2) ∧ (¬ joints ≤ i1_1 → wp_Model_itemOf what i1_1 (-1) (fun r_6 => wp_Model_itemOf what i1_1 r_6 (fun r_7 => vp_in r_6 320 ∧ vp_in r_7 320 ∧ vp_in (piece_2 (ix r_6)) 110 ∧ vp_in (piece_2 (ix r_7)) 110 ∧ (¬ (kinds (ix (piece_2 (ix r_6)))) = (kinds (ix (piece_2 (ix r_7)))) → K_3 (i1_1 + 1) piece_2) ∧ ((kinds (ix (piece_2 (ix r_6)))) = (kinds (ix (piece_2 (ix r_7)))) → vp_in (piece_2 (ix r_6)) 110 ∧ (2 ≤ (kinds (ix (piece_2 (ix r_6)))) → K_3 (i1_1 + 1) piece_2) ∧ (¬ 2 ≤ (kinds (ix (piece_2 (ix r_6)))) → vp_in r_6 320 ∧ ∀ piece_8 : Nat → Int32, piece_8 = upd piece_2 (ix r_6) (-1) → vp_in r_7 320 ∧ ∀ piece_10 : Nat → Int32, piece_10 = upd piece_8 (ix r_7) (-1) → ∃ n, sL2 (fun (K_14 : Int32 → (Nat → Int32) → Prop) (i6_12 : Int32) (piece_13 : Nat → Int32) => (items ≤ i6_12 → K_3 (i1_1 + 1) piece_13) ∧ (¬ items ≤ i6_12 → vp_in i6_12 320 ∧ (¬ (piece_13 (ix i6_12)) = (piece_2 (ix r_7)) → vp_in i6_12 320 ∧ vp_in i6_12 320 ∧ ∀ piece_17 : Nat → Int32, piece_17 = upd piece_13 (ix i6_12) (piece_13 (ix i6_12)) → K_14 (i6_12 + 1) piece_17) ∧ ((piece_13 (ix i6_12)) = (piece_2 (ix r_7)) → vp_in i6_12 320 ∧ ∀ piece_19 : Nat → Int32, piece_19 = upd piece_13 (ix i6_12) (piece_2 (ix r_6)) → K_14 (i6_12 + 1) piece_19))) n 0 piece_10)))))) n 0 piece
set_option maxHeartbeats 4000000 in
set_option maxRecDepth 100000 in
theorem bd_Model_putTogether {p : Program} {l : Launch} {e : Env} {R : Room} {s : State} {m : MethodId} {args : Array Value} {below : List Frame} {meth : Method} {c : Code} {D : va_G} {A B : Nat → Prop} {Q : State → Prop} {cI cJ cZ : ClassId} {a_t a_ends a_there a_one a_two a_what a_piece a_kinds a_group a_many a_pieceOf a_numberOf a_ups a_jointUp a_partner a_beyonds a_gone : Nat} {thrown : Int32} {made : Int32} {tree : Int32} {items : Int32} {what : Nat → Int32} {piece : Nat → Int32} {pieces : Int32} {joints : Int32} {kinds : Nat → Int32} {nodes : Int32}  (K : sk_C p s m args meth c c_Model_putTogether 7 "SkeletonTreeModel" D (tyl cI cJ cZ)) (hR1 : 1 ≤ R.frames) (hR2 : 23 ≤ R.locals) (hBA : ∀ q : Nat, B q → A q) {post : (Nat → Int32) → Prop} (hend : ∀ (ti pc : Nat)  (y0 : Nat → Int32) (lv : List (Nat × Value)), t_Model_putTogether[ti]? = some (pc, .return_, 1) → post  y0 → AW p l e R s m args below meth c D A B 7 Q 0 0 (w_Model_putTogether cI cJ cZ a_t a_ends a_there a_one a_two a_what a_piece a_kinds a_group a_many a_pieceOf a_numberOf a_ups a_jointUp a_partner a_beyonds a_gone thrown made tree items what y0 pieces joints kinds nodes) lv pc []) (h : wp_Model_putTogether items what piece joints kinds post) : AW p l e R s m args below meth c D A B 7 Q 0 0 (w_Model_putTogether cI cJ cZ a_t a_ends a_there a_one a_two a_what a_piece a_kinds a_group a_many a_pieceOf a_numberOf a_ups a_jointUp a_partner a_beyonds a_gone thrown made tree items what piece pieces joints kinds nodes) [(0, .ref a_t)] 0 [] := by
  unfold wp_Model_putTogether at h
  refine A_iconst K d_Model_putTogether 0 (pc' := 1) (v := 0) rfl rfl (by decide) ?_
  refine A_istore_n K d_Model_putTogether 1 (pc' := 2) (lv' := [(1, .int 0), (0, .ref a_t)]) rfl rfl rfl (by decide) rfl ?_
  refine A_lv [1, 0] rfl ?_
  obtain ⟨n_5, h⟩ := h
  refine sL2_ind (fun (i1_1 : Int32) (piece_2 : Nat → Int32) => AW p l e R s m args below meth c D A B 7 Q 0 0 (w_Model_putTogether cI cJ cZ a_t a_ends a_there a_one a_two a_what a_piece a_kinds a_group a_many a_pieceOf a_numberOf a_ups a_jointUp a_partner a_beyonds a_gone thrown made tree items what piece_2 pieces joints kinds nodes) [(0, .ref a_t), (1, .int i1_1)] 2 []) ?_ n_5 _ _ h
  intro K_3 ih_4 i1_1 piece_2 h
  refine A_iload_n K d_Model_putTogether 2 1 (pc' := 3) rfl rfl rfl rfl ?_
  refine A_aload_n K d_Model_putTogether 3 0 (pc' := 4) rfl rfl rfl rfl ?_
  refine A_get K d_Model_putTogether 4 0 fl_Model_133 (pc' := 7) rfl rfl rfl rfl ?_
  refine A_icmp_ge K d_Model_putTogether 5 137 (pc' := 10) rfl rfl rfl (fun q => ?_) (fun q => ?_)
  · replace h := h.1 q
    exact hend 77 _ _ _ rfl h
  · replace h := h.2 q
    refine A_aload_n K d_Model_putTogether 6 0 (pc' := 11) rfl rfl rfl rfl ?_
    refine A_iload_n K d_Model_putTogether 7 1 (pc' := 12) rfl rfl rfl rfl ?_
    refine A_iconst K d_Model_putTogether 8 (pc' := 13) (v := (-1)) rfl rfl (by decide) ?_
    refine R_callV_i K d_Model_putTogether 9 [0, 1] (As := [.int i1_1, .int (-1)]) (rest := []) (pc' := 16) v_Model_139 ⟨rfl, rfl, Nat.le_trans (Nat.le_of_ble_eq_true rfl) hR1, Nat.le_trans (Nat.le_of_ble_eq_true rfl) hR2⟩ (fun sz => met_Model_itemOf l D cI cJ cZ a_t a_ends a_there a_one a_two a_what a_piece a_kinds a_group a_many a_pieceOf a_numberOf a_ups a_jointUp a_partner a_beyonds a_gone thrown made tree items what pieces joints nodes i1_1 (-1) _ sz) h rfl rfl rfl rfl rfl rfl (Nat.le_of_ble_eq_true rfl) ⟨Nat.zero_le _, Nat.zero_le _⟩ (q0 := 0) rfl rfl (fun r_6 h => ?_)
    refine A_istore_n K d_Model_putTogether 10 (pc' := 17) (lv' := [(2, .int r_6), (0, .ref a_t), (1, .int i1_1)]) rfl rfl rfl (by decide) rfl ?_
    refine A_aload_n K d_Model_putTogether 11 1 (pc' := 18) rfl rfl rfl rfl ?_
    refine A_iload_n K d_Model_putTogether 12 2 (pc' := 19) rfl rfl rfl rfl ?_
    refine A_iload_n K d_Model_putTogether 13 0 (pc' := 20) rfl rfl rfl rfl ?_
    refine R_callV_i K d_Model_putTogether 14 [0, 1] (As := [.int i1_1, .int r_6]) (rest := []) (pc' := 23) v_Model_139 ⟨rfl, rfl, Nat.le_trans (Nat.le_of_ble_eq_true rfl) hR1, Nat.le_trans (Nat.le_of_ble_eq_true rfl) hR2⟩ (fun sz => met_Model_itemOf l D cI cJ cZ a_t a_ends a_there a_one a_two a_what a_piece a_kinds a_group a_many a_pieceOf a_numberOf a_ups a_jointUp a_partner a_beyonds a_gone thrown made tree items what pieces joints nodes i1_1 r_6 _ sz) h rfl rfl rfl rfl rfl rfl (Nat.le_of_ble_eq_true rfl) ⟨Nat.zero_le _, Nat.zero_le _⟩ (q0 := 0) rfl rfl (fun r_7 h => ?_)
    refine A_istore_n K d_Model_putTogether 15 (pc' := 24) (lv' := [(3, .int r_7), (2, .int r_6), (0, .ref a_t), (1, .int i1_1)]) rfl rfl rfl (by decide) rfl ?_
    refine A_aload_n K d_Model_putTogether 16 2 (pc' := 25) rfl rfl rfl rfl ?_
    refine A_get K d_Model_putTogether 17 0 fl_Model_26 (pc' := 28) rfl rfl rfl rfl ?_
    refine A_iload_n K d_Model_putTogether 18 1 (pc' := 29) rfl rfl rfl rfl ?_
    refine A_iald K d_Model_putTogether 19 2 0 (pc' := 30) rfl rfl rfl rfl h.1 ?_
    replace h := h.2
    refine A_istore K d_Model_putTogether 20 (pc' := 32) (lv' := [(4, .int (piece_2 (ix r_6))), (3, .int r_7), (2, .int r_6), (0, .ref a_t), (1, .int i1_1)]) rfl rfl (by decide) rfl ?_
    refine A_aload_n K d_Model_putTogether 21 3 (pc' := 33) rfl rfl rfl rfl ?_
    refine A_get K d_Model_putTogether 22 0 fl_Model_26 (pc' := 36) rfl rfl rfl rfl ?_
    refine A_iload_n K d_Model_putTogether 23 1 (pc' := 37) rfl rfl rfl rfl ?_
    refine A_iald K d_Model_putTogether 24 2 0 (pc' := 38) rfl rfl rfl rfl h.1 ?_
    replace h := h.2
    refine A_istore K d_Model_putTogether 25 (pc' := 40) (lv' := [(5, .int (piece_2 (ix r_7))), (4, .int (piece_2 (ix r_6))), (3, .int r_7), (2, .int r_6), (0, .ref a_t), (1, .int i1_1)]) rfl rfl (by decide) rfl ?_
    refine A_aload_n K d_Model_putTogether 26 4 (pc' := 41) rfl rfl rfl rfl ?_
    refine A_get K d_Model_putTogether 27 0 fl_Model_29 (pc' := 44) rfl rfl rfl rfl ?_
    refine A_iload K d_Model_putTogether 28 1 (pc' := 46) rfl rfl rfl ?_
    refine A_iald K d_Model_putTogether 29 3 0 (pc' := 47) rfl rfl rfl rfl h.1 ?_
    replace h := h.2
    refine A_aload_n K d_Model_putTogether 30 4 (pc' := 48) rfl rfl rfl rfl ?_
    refine A_get K d_Model_putTogether 31 0 fl_Model_29 (pc' := 51) rfl rfl rfl rfl ?_
    refine A_iload K d_Model_putTogether 32 0 (pc' := 53) rfl rfl rfl ?_
    refine A_iald K d_Model_putTogether 33 3 0 (pc' := 54) rfl rfl rfl rfl h.1 ?_
    replace h := h.2
    refine A_icmp_ne K d_Model_putTogether 34 131 (pc' := 57) rfl rfl rfl (fun q => ?_) (fun q => ?_)
    · replace h := h.1 q
      refine A_iinc K d_Model_putTogether 75 5 (pc' := 134) (v := i1_1 + 1) (lv' := [(1, .int (i1_1 + 1)), (5, .int (piece_2 (ix r_7))), (4, .int (piece_2 (ix r_6))), (3, .int r_7), (2, .int r_6), (0, .ref a_t)]) rfl rfl rfl rfl (by decide) rfl ?_
      refine A_goto K d_Model_putTogether 76 (pc' := 2) rfl rfl ?_
      refine A_lv [5, 0] rfl ?_
      exact ih_4 _ _ h
    · replace h := h.2 q
      refine A_aload_n K d_Model_putTogether 35 4 (pc' := 58) rfl rfl rfl rfl ?_
      refine A_get K d_Model_putTogether 36 0 fl_Model_29 (pc' := 61) rfl rfl rfl rfl ?_
      refine A_iload K d_Model_putTogether 37 1 (pc' := 63) rfl rfl rfl ?_
      refine A_iald K d_Model_putTogether 38 3 0 (pc' := 64) rfl rfl rfl rfl h.1 ?_
      replace h := h.2
      refine A_iconst K d_Model_putTogether 39 (pc' := 65) (v := 2) rfl rfl (by decide) ?_
      refine A_icmp_ge K d_Model_putTogether 40 131 (pc' := 68) rfl rfl rfl (fun q => ?_) (fun q => ?_)
      · replace h := h.1 q
        refine A_iinc K d_Model_putTogether 75 5 (pc' := 134) (v := i1_1 + 1) (lv' := [(1, .int (i1_1 + 1)), (5, .int (piece_2 (ix r_7))), (4, .int (piece_2 (ix r_6))), (3, .int r_7), (2, .int r_6), (0, .ref a_t)]) rfl rfl rfl rfl (by decide) rfl ?_
        refine A_goto K d_Model_putTogether 76 (pc' := 2) rfl rfl ?_
        refine A_lv [5, 0] rfl ?_
        exact ih_4 _ _ h
      · replace h := h.2 q
        refine A_aload_n K d_Model_putTogether 41 4 (pc' := 69) rfl rfl rfl rfl ?_
        refine A_get K d_Model_putTogether 42 0 fl_Model_26 (pc' := 72) rfl rfl rfl rfl ?_
        refine A_iload_n K d_Model_putTogether 43 3 (pc' := 73) rfl rfl rfl rfl ?_
        refine A_iconst K d_Model_putTogether 44 (pc' := 74) (v := (-1)) rfl rfl (by decide) ?_
        refine A_iastN K hBA d_Model_putTogether 45 2 0 (pc' := 75) (ws' := fun piece_8 => w_Model_putTogether cI cJ cZ a_t a_ends a_there a_one a_two a_what a_piece a_kinds a_group a_many a_pieceOf a_numberOf a_ups a_jointUp a_partner a_beyonds a_gone thrown made tree items what piece_8 pieces joints kinds nodes) rfl rfl rfl rfl h.1 (fun _ => rfl) (fun piece_8 e_9 => ?_)
        replace h := h.2 piece_8 e_9
        refine A_aload_n K d_Model_putTogether 46 4 (pc' := 76) rfl rfl rfl rfl ?_
        refine A_get K d_Model_putTogether 47 0 fl_Model_26 (pc' := 79) rfl rfl rfl rfl ?_
        refine A_iload_n K d_Model_putTogether 48 2 (pc' := 80) rfl rfl rfl rfl ?_
        refine A_iconst K d_Model_putTogether 49 (pc' := 81) (v := (-1)) rfl rfl (by decide) ?_
        refine A_iastN K hBA d_Model_putTogether 50 2 0 (pc' := 82) (ws' := fun piece_10 => w_Model_putTogether cI cJ cZ a_t a_ends a_there a_one a_two a_what a_piece a_kinds a_group a_many a_pieceOf a_numberOf a_ups a_jointUp a_partner a_beyonds a_gone thrown made tree items what piece_10 pieces joints kinds nodes) rfl rfl rfl rfl h.1 (fun _ => rfl) (fun piece_10 e_11 => ?_)
        replace h := h.2 piece_10 e_11
        refine A_iconst K d_Model_putTogether 51 (pc' := 83) (v := 0) rfl rfl (by decide) ?_
        refine A_istore K d_Model_putTogether 52 (pc' := 85) (lv' := [(6, .int 0), (5, .int (piece_2 (ix r_7))), (4, .int (piece_2 (ix r_6))), (3, .int r_7), (2, .int r_6), (0, .ref a_t), (1, .int i1_1)]) rfl rfl (by decide) rfl ?_
        refine A_lv [5, 6, 2, 1, 0] rfl ?_
        obtain ⟨n_16, h⟩ := h
        refine sL2_ind (fun (i6_12 : Int32) (piece_13 : Nat → Int32) => AW p l e R s m args below meth c D A B 7 Q 0 0 (w_Model_putTogether cI cJ cZ a_t a_ends a_there a_one a_two a_what a_piece a_kinds a_group a_many a_pieceOf a_numberOf a_ups a_jointUp a_partner a_beyonds a_gone thrown made tree items what piece_13 pieces joints kinds nodes) [(0, .ref a_t), (1, .int i1_1), (4, .int (piece_2 (ix r_6))), (5, .int (piece_2 (ix r_7))), (6, .int i6_12)] 85 []) ?_ n_16 _ _ h
        intro K_14 ih_15 i6_12 piece_13 h
        refine A_iload K d_Model_putTogether 53 4 (pc' := 87) rfl rfl rfl ?_
        refine A_aload_n K d_Model_putTogether 54 0 (pc' := 88) rfl rfl rfl rfl ?_
        refine A_get K d_Model_putTogether 55 0 fl_Model_98 (pc' := 91) rfl rfl rfl rfl ?_
        refine A_icmp_ge K d_Model_putTogether 56 131 (pc' := 94) rfl rfl rfl (fun q => ?_) (fun q => ?_)
        · replace h := h.1 q
          refine A_iinc K d_Model_putTogether 75 1 (pc' := 134) (v := i1_1 + 1) (lv' := [(1, .int (i1_1 + 1)), (0, .ref a_t), (4, .int (piece_2 (ix r_6))), (5, .int (piece_2 (ix r_7))), (6, .int i6_12)]) rfl rfl rfl rfl (by decide) rfl ?_
          refine A_goto K d_Model_putTogether 76 (pc' := 2) rfl rfl ?_
          refine A_lv [1, 0] rfl ?_
          exact ih_4 _ _ h
        · replace h := h.2 q
          refine A_aload_n K d_Model_putTogether 57 0 (pc' := 95) rfl rfl rfl rfl ?_
          refine A_get K d_Model_putTogether 58 0 fl_Model_26 (pc' := 98) rfl rfl rfl rfl ?_
          refine A_iload K d_Model_putTogether 59 4 (pc' := 100) rfl rfl rfl ?_
          refine A_aload_n K d_Model_putTogether 60 0 (pc' := 101) rfl rfl rfl rfl ?_
          refine A_get K d_Model_putTogether 61 0 fl_Model_26 (pc' := 104) rfl rfl rfl rfl ?_
          refine A_iload K d_Model_putTogether 62 4 (pc' := 106) rfl rfl rfl ?_
          refine A_iald K d_Model_putTogether 63 2 0 (pc' := 107) rfl rfl rfl rfl h.1 ?_
          replace h := h.2
          refine A_iload K d_Model_putTogether 64 3 (pc' := 109) rfl rfl rfl ?_
          refine A_icmp_ne K d_Model_putTogether 65 117 (pc' := 112) rfl rfl rfl (fun q => ?_) (fun q => ?_)
          · replace h := h.1 q
            refine A_aload_n K d_Model_putTogether 68 0 (pc' := 118) rfl rfl rfl rfl ?_
            refine A_get K d_Model_putTogether 69 0 fl_Model_26 (pc' := 121) rfl rfl rfl rfl ?_
            refine A_iload K d_Model_putTogether 70 4 (pc' := 123) rfl rfl rfl ?_
            refine A_iald K d_Model_putTogether 71 2 0 (pc' := 124) rfl rfl rfl rfl h.1 ?_
            replace h := h.2
            refine A_iastN K hBA d_Model_putTogether 72 2 0 (pc' := 125) (ws' := fun piece_17 => w_Model_putTogether cI cJ cZ a_t a_ends a_there a_one a_two a_what a_piece a_kinds a_group a_many a_pieceOf a_numberOf a_ups a_jointUp a_partner a_beyonds a_gone thrown made tree items what piece_17 pieces joints kinds nodes) rfl rfl rfl rfl h.1 (fun _ => rfl) (fun piece_17 e_18 => ?_)
            replace h := h.2 piece_17 e_18
            refine A_iinc K d_Model_putTogether 73 4 (pc' := 128) (v := i6_12 + 1) (lv' := [(6, .int (i6_12 + 1)), (0, .ref a_t), (1, .int i1_1), (4, .int (piece_2 (ix r_6))), (5, .int (piece_2 (ix r_7)))]) rfl rfl rfl rfl (by decide) rfl ?_
            refine A_goto K d_Model_putTogether 74 (pc' := 85) rfl rfl ?_
            refine A_lv [1, 2, 3, 4, 0] rfl ?_
            exact ih_15 _ _ h
          · replace h := h.2 q
            refine A_iload K d_Model_putTogether 66 2 (pc' := 114) rfl rfl rfl ?_
            refine A_goto K d_Model_putTogether 67 (pc' := 124) rfl rfl ?_
            refine A_iastN K hBA d_Model_putTogether 72 2 0 (pc' := 125) (ws' := fun piece_19 => w_Model_putTogether cI cJ cZ a_t a_ends a_there a_one a_two a_what a_piece a_kinds a_group a_many a_pieceOf a_numberOf a_ups a_jointUp a_partner a_beyonds a_gone thrown made tree items what piece_19 pieces joints kinds nodes) rfl rfl rfl rfl h.1 (fun _ => rfl) (fun piece_19 e_20 => ?_)
            replace h := h.2 piece_19 e_20
            refine A_iinc K d_Model_putTogether 73 4 (pc' := 128) (v := i6_12 + 1) (lv' := [(6, .int (i6_12 + 1)), (0, .ref a_t), (1, .int i1_1), (4, .int (piece_2 (ix r_6))), (5, .int (piece_2 (ix r_7)))]) rfl rfl rfl rfl (by decide) rfl ?_
            refine A_goto K d_Model_putTogether 74 (pc' := 85) rfl rfl ?_
            refine A_lv [1, 2, 3, 4, 0] rfl ?_
            exact ih_15 _ _ h
theorem met_Model_putTogether (l : Launch) (D : va_G) (cI cJ cZ : ClassId) (a_t a_ends a_there a_one a_two a_what a_piece a_kinds a_group a_many a_pieceOf a_numberOf a_ups a_jointUp a_partner a_beyonds a_gone : Nat) (thrown : Int32) (made : Int32) (tree : Int32) (items : Int32) (what : Nat → Int32) (piece : Nat → Int32) (pieces : Int32) (joints : Int32) (kinds : Nat → Int32) (nodes : Int32)  (post : (Nat → Int32) → Prop) (sz : Nat) : Met l y_Model_putTogether (Cond.code y_Model_putTogether c_Model_putTogether 7 (Option.none : Option Jvm.ClassFile.FieldType) :: GW) { frames := 1, cells := 0, slots := 0, locals := 23 } (va_Pc [.ref a_t] (fun U => sk_P D (tyl cI cJ cZ) (w_Model_putTogether cI cJ cZ a_t a_ends a_there a_one a_two a_what a_piece a_kinds a_group a_many a_pieceOf a_numberOf a_ups a_jointUp a_partner a_beyonds a_gone thrown made tree items what piece pieces joints kinds nodes) sz U ∧ wp_Model_putTogether items what piece joints kinds post)) (va_Qv (fun (u : (Nat → Int32)) => post  u) (fun u t => sk_B D (tyl cI cJ cZ) (w_Model_putTogether cI cJ cZ a_t a_ends a_there a_one a_two a_what a_piece a_kinds a_group a_many a_pieceOf a_numberOf a_ups a_jointUp a_partner a_beyonds a_gone thrown made tree items what u pieces joints kinds nodes) (va_A (w_Model_putTogether cI cJ cZ a_t a_ends a_there a_one a_two a_what a_piece a_kinds a_group a_many a_pieceOf a_numberOf a_ups a_jointUp a_partner a_beyonds a_gone thrown made tree items what piece pieces joints kinds nodes) sz) t) (va_A (w_Model_putTogether cI cJ cZ a_t a_ends a_there a_one a_two a_what a_piece a_kinds a_group a_many a_pieceOf a_numberOf a_ups a_jointUp a_partner a_beyonds a_gone thrown made tree items what piece pieces joints kinds nodes) sz)) 0 0 (va_A (w_Model_putTogether cI cJ cZ a_t a_ends a_there a_one a_two a_what a_piece a_kinds a_group a_many a_pieceOf a_numberOf a_ups a_jointUp a_partner a_beyonds a_gone thrown made tree items what piece pieces joints kinds nodes) sz) :=
  sk_intro (by decide) (Nat.le_of_ble_eq_true rfl) (fun p e s m below meth c K hr _ h => bd_Model_putTogether K (Nat.le_refl _) (Nat.le_refl _) (fun _ z => z) (fun ti pc y0 lv hd hp => A_vret K d_Model_putTogether ti hr (post := (fun (u : (Nat → Int32)) => post  u)) (wl := fun (u : (Nat → Int32)) => w_Model_putTogether cI cJ cZ a_t a_ends a_there a_one a_two a_what a_piece a_kinds a_group a_many a_pieceOf a_numberOf a_ups a_jointUp a_partner a_beyonds a_gone thrown made tree items what u pieces joints kinds nodes) y0 hd hp) h)
/-! SkeletonTreeModel.beyond(I)I -/
def t_Model_beyond : List (Nat × Instr × Nat) := [(0, .aload_n 0, 1), (1, .getfield 26, 3), (4, .aload_n 0, 1), (5, .getfield 50, 3), (8, .iload_n 1, 1), (9, .iaload, 1), (10, .iaload, 1), (11, .ireturn, 1)]
set_option maxRecDepth 100000 in
theorem d_Model_beyond : sk_T c_Model_beyond t_Model_beyond := by unfold sk_T t_Model_beyond; decide +kernel
def w_Model_beyond (cI cJ cZ : ClassId) (a_t a_ends a_there a_one a_two a_what a_piece a_kinds a_group a_many a_pieceOf a_numberOf a_ups a_jointUp a_partner a_beyonds a_gone : Nat) (thrown : Int32) (made : Int32) (tree : Int32) (items : Int32) (piece : Nat → Int32) (pieces : Int32) (joints : Int32) (nodes : Int32) (partner : Nat → Int32) : va_W := [(a_t, .inr (5, [.int thrown, .int made, .ref a_ends, .ref a_there, .int tree, .int items, .ref a_one, .ref a_two, .ref a_what, .ref a_piece, .int pieces, .int joints, .ref a_kinds, .ref a_group, .ref a_many, .int nodes, .ref a_pieceOf, .ref a_numberOf, .ref a_ups, .ref a_jointUp, .ref a_partner, .ref a_beyonds, .ref a_gone])), (a_piece, .inl (cI, 320, .inl piece)), (a_partner, .inl (cI, 320, .inl partner))]
def wp_Model_beyond  (piece : Nat → Int32) (partner : Nat → Int32) (x1 : Int32) (post : Int32 → Prop) : Prop :=
  vp_in x1 320 ∧ vp_in (partner (ix x1)) 320 ∧ post (piece (ix (partner (ix x1)))) 
set_option maxHeartbeats 4000000 in
set_option maxRecDepth 100000 in
theorem bd_Model_beyond {p : Program} {l : Launch} {e : Env} {R : Room} {s : State} {m : MethodId} {args : Array Value} {below : List Frame} {meth : Method} {c : Code} {D : va_G} {A B : Nat → Prop} {Q : State → Prop} {cI cJ cZ : ClassId} {a_t a_ends a_there a_one a_two a_what a_piece a_kinds a_group a_many a_pieceOf a_numberOf a_ups a_jointUp a_partner a_beyonds a_gone : Nat} {thrown : Int32} {made : Int32} {tree : Int32} {items : Int32} {piece : Nat → Int32} {pieces : Int32} {joints : Int32} {nodes : Int32} {partner : Nat → Int32} {x1 : Int32} (K : sk_C p s m args meth c c_Model_beyond 2 "SkeletonTreeModel" D (tyl cI cJ cZ)) (hR1 : 0 ≤ R.frames) (hR2 : 0 ≤ R.locals) {post : Int32 → Prop} (hend : ∀ (ti pc : Nat) (r : Int32)  (lv : List (Nat × Value)), t_Model_beyond[ti]? = some (pc, .ireturn, 1) → post r  → AW p l e R s m args below meth c D A B 2 Q 0 0 (w_Model_beyond cI cJ cZ a_t a_ends a_there a_one a_two a_what a_piece a_kinds a_group a_many a_pieceOf a_numberOf a_ups a_jointUp a_partner a_beyonds a_gone thrown made tree items piece pieces joints nodes partner) lv pc [.int r]) (h : wp_Model_beyond piece partner x1 post) : AW p l e R s m args below meth c D A B 2 Q 0 0 (w_Model_beyond cI cJ cZ a_t a_ends a_there a_one a_two a_what a_piece a_kinds a_group a_many a_pieceOf a_numberOf a_ups a_jointUp a_partner a_beyonds a_gone thrown made tree items piece pieces joints nodes partner) [(0, .ref a_t), (1, .int x1)] 0 [] := by
  unfold wp_Model_beyond at h
  refine A_aload_n K d_Model_beyond 0 0 (pc' := 1) rfl rfl rfl rfl ?_
  refine A_get K d_Model_beyond 1 0 fl_Model_26 (pc' := 4) rfl rfl rfl rfl ?_
  refine A_aload_n K d_Model_beyond 2 0 (pc' := 5) rfl rfl rfl rfl ?_
  refine A_get K d_Model_beyond 3 0 fl_Model_50 (pc' := 8) rfl rfl rfl rfl ?_
  refine A_iload_n K d_Model_beyond 4 1 (pc' := 9) rfl rfl rfl rfl ?_
  refine A_iald K d_Model_beyond 5 2 0 (pc' := 10) rfl rfl rfl rfl h.1 ?_
  replace h := h.2
  refine A_iald K d_Model_beyond 6 1 0 (pc' := 11) rfl rfl rfl rfl h.1 ?_
  replace h := h.2
  exact hend 7 _ _ _ rfl h
theorem met_Model_beyond (l : Launch) (D : va_G) (cI cJ cZ : ClassId) (a_t a_ends a_there a_one a_two a_what a_piece a_kinds a_group a_many a_pieceOf a_numberOf a_ups a_jointUp a_partner a_beyonds a_gone : Nat) (thrown : Int32) (made : Int32) (tree : Int32) (items : Int32) (piece : Nat → Int32) (pieces : Int32) (joints : Int32) (nodes : Int32) (partner : Nat → Int32) (x1 : Int32) (post : Int32 → Prop) (sz : Nat) : Met l y_Model_beyond (Cond.code y_Model_beyond c_Model_beyond 2 (Option.some Jvm.ClassFile.FieldType.int) :: GW) { frames := 0, cells := 0, slots := 0, locals := 0 } (va_Pc [.ref a_t, .int x1] (fun U => sk_P D (tyl cI cJ cZ) (w_Model_beyond cI cJ cZ a_t a_ends a_there a_one a_two a_what a_piece a_kinds a_group a_many a_pieceOf a_numberOf a_ups a_jointUp a_partner a_beyonds a_gone thrown made tree items piece pieces joints nodes partner) sz U ∧ wp_Model_beyond piece partner x1 post)) (va_Qi (fun (r : Int32) (_ : Unit) => post r) (fun _ t => sk_B D (tyl cI cJ cZ) (w_Model_beyond cI cJ cZ a_t a_ends a_there a_one a_two a_what a_piece a_kinds a_group a_many a_pieceOf a_numberOf a_ups a_jointUp a_partner a_beyonds a_gone thrown made tree items piece pieces joints nodes partner) (fun _ => True) t) (fun q => sz ≤ q)) 0 0 (fun q => sz ≤ q) :=
  sk_introR (by decide) (Nat.le_of_ble_eq_true rfl) (fun p e s m below meth c K hr _ h => bd_Model_beyond K (Nat.le_refl _) (Nat.le_refl _) (fun ti pc r  lv hd hp => A_iret K d_Model_beyond ti hr (post := (fun (r : Int32) (_ : Unit) => post r)) (wl := fun (_ : Unit) => w_Model_beyond cI cJ cZ a_t a_ends a_there a_one a_two a_what a_piece a_kinds a_group a_many a_pieceOf a_numberOf a_ups a_jointUp a_partner a_beyonds a_gone thrown made tree items piece pieces joints nodes partner) () hd hp) h)
/-! SkeletonTreeModel.lookBeyond()V -/
def t_Model_lookBeyond : List (Nat × Instr × Nat) := [(0, .iconst 0, 1), (1, .istore_n 1, 1), (2, .iload_n 1, 1), (3, .aload_n 0, 1), (4, .getfield 133, 3), (7, .if_icmp .ge 37, 3), (10, .aload_n 0, 1), (11, .iload_n 1, 1), (12, .iconst (-1), 1), (13, .invokevirtual 139, 3), (16, .istore_n 2, 1), (17, .aload_n 0, 1), (18, .iload_n 1, 1), (19, .iload_n 2, 1), (20, .invokevirtual 139, 3), (23, .istore_n 3, 1), (24, .aload_n 0, 1), (25, .getfield 50, 3), (28, .iload_n 2, 1), (29, .iload_n 3, 1), (30, .iastore, 1), (31, .aload_n 0, 1), (32, .getfield 50, 3), (35, .iload_n 3, 1), (36, .iload_n 2, 1), (37, .iastore, 1), (38, .iinc 1 1, 3), (41, .goto (-39), 3), (44, .iconst 0, 1), (45, .istore_n 1, 1), (46, .iload_n 1, 1), (47, .aload_n 0, 1), (48, .getfield 98, 3), (51, .if_icmp .ge 35, 3), (54, .aload_n 0, 1), (55, .getfield 53, 3), (58, .iload_n 1, 1), (59, .aload_n 0, 1), (60, .getfield 23, 3), (63, .iload_n 1, 1), (64, .iaload, 1), (65, .ifCond .ge 8, 3), (68, .bipush 100, 2), (70, .goto 9, 3), (73, .aload_n 0, 1), (74, .getfield 23, 3), (77, .iload_n 1, 1), (78, .iaload, 1), (79, .iastore, 1), (80, .iinc 1 1, 3), (83, .goto (-37), 3), (86, .iconst 1, 1), (87, .istore_n 1, 1), (88, .iload_n 1, 1), (89, .ifCond .eq 111, 3), (92, .iconst 0, 1), (93, .istore_n 1, 1), (94, .iconst 0, 1), (95, .istore_n 2, 1), (96, .iload_n 2, 1), (97, .aload_n 0, 1), (98, .getfield 98, 3), (101, .if_icmp .ge 96, 3), (104, .iconst 0, 1), (105, .istore_n 3, 1), (106, .iload_n 3, 1), (107, .aload_n 0, 1), (108, .getfield 98, 3), (111, .if_icmp .ge 80, 3), (114, .aload_n 0, 1), (115, .getfield 23, 3), (118, .iload_n 2, 1), (119, .iaload, 1), (120, .ifCond .ge 71, 3), (123, .aload_n 0, 1), (124, .getfield 26, 3), (127, .iload_n 2, 1), (128, .iaload, 1), (129, .ifCond .lt 62, 3), (132, .aload_n 0, 1), (133, .getfield 26, 3), (136, .iload_n 3, 1), (137, .iaload, 1), (138, .aload_n 0, 1), (139, .iload_n 2, 1), (140, .invokevirtual 143, 3), (143, .if_icmp .ne 42, 3), (146, .iload_n 3, 1), (147, .aload_n 0, 1), (148, .getfield 50, 3), (151, .iload_n 2, 1), (152, .iaload, 1), (153, .if_icmp .eq 32, 3), (156, .aload_n 0, 1), (157, .getfield 53, 3), (160, .iload_n 3, 1), (161, .iaload, 1), (162, .aload_n 0, 1), (163, .getfield 53, 3), (166, .iload_n 2, 1), (167, .iaload, 1), (168, .if_icmp .ge 17, 3), (171, .aload_n 0, 1), (172, .getfield 53, 3), (175, .iload_n 2, 1), (176, .aload_n 0, 1), (177, .getfield 53, 3), (180, .iload_n 3, 1), (181, .iaload, 1), (182, .iastore, 1), (183, .iconst 1, 1), (184, .istore_n 1, 1), (185, .iinc 3 1, 3), (188, .goto (-82), 3), (191, .iinc 2 1, 3), (194, .goto (-98), 3), (197, .goto (-109), 3), (200, .return_, 1)]
set_option maxRecDepth 100000 in
theorem d_Model_lookBeyond : sk_T c_Model_lookBeyond t_Model_lookBeyond := by unfold sk_T t_Model_lookBeyond; decide +kernel
def w_Model_lookBeyond (cI cJ cZ : ClassId) (a_t a_ends a_there a_one a_two a_what a_piece a_kinds a_group a_many a_pieceOf a_numberOf a_ups a_jointUp a_partner a_beyonds a_gone : Nat) (thrown : Int32) (made : Int32) (tree : Int32) (items : Int32) (what : Nat → Int32) (piece : Nat → Int32) (pieces : Int32) (joints : Int32) (nodes : Int32) (partner : Nat → Int32) (beyonds : Nat → Int32) : va_W := [(a_t, .inr (5, [.int thrown, .int made, .ref a_ends, .ref a_there, .int tree, .int items, .ref a_one, .ref a_two, .ref a_what, .ref a_piece, .int pieces, .int joints, .ref a_kinds, .ref a_group, .ref a_many, .int nodes, .ref a_pieceOf, .ref a_numberOf, .ref a_ups, .ref a_jointUp, .ref a_partner, .ref a_beyonds, .ref a_gone])), (a_what, .inl (cI, 320, .inl what)), (a_piece, .inl (cI, 320, .inl piece)), (a_partner, .inl (cI, 320, .inl partner)), (a_beyonds, .inl (cI, 320, .inl beyonds))]
def wp_Model_lookBeyond  (items : Int32) (what : Nat → Int32) (piece : Nat → Int32) (joints : Int32) (partner : Nat → Int32) (beyonds : Nat → Int32)  (post : (Nat → Int32) → (Nat → Int32) → Prop) : Prop :=
  ∃ n, sL2 (fun (K_3 : Int32 → (Nat → Int32) → Prop) (i1_1 : Int32) (partner_2 : Nat → Int32) => (joints ≤ i1_1 → ∃ n, sL2 (fun (K_8 : Int32 → (Nat → Int32) → Prop) (i1_6 : Int32) (beyonds_7 : Nat → Int32) => (items ≤ i1_6 → ∃ n, sL2 (fun (K_13 : Int32 → (Nat → Int32) → Prop) (i1_11 : Int32) (beyonds_12 : Nat → Int32) => (i1_11 = 0 → post partner_2 beyonds_12) ∧ (¬ i1_11 = 0 → ∃ n, sL3 (fun (K_19 : Int32 → Int32 → (Nat → Int32) → Prop) (i1_16 : Int32) (i2_17 : Int32) (beyonds_18 : Nat → Int32) => (items ≤ i2_17 → K_13 i1_16 beyonds_18) ∧ (¬ items ≤ i2_17 → ∃ n, sL3 (fun (K_25 : Int32 → Int32 → (Nat → Int32) → Prop) (i1_22 : Int32) (i3_23 : Int32) (beyonds_24 : Nat → Int32) => (items ≤ i3_23 → K_19 i1_22 (i2_17 + 1) beyonds_24) ∧ (¬ items ≤ i3_23 → vp_in i2_17 320 ∧ (0 ≤ (what (ix i2_17)) → K_19 i1_22 (i2_17 + 1) beyonds_24) ∧ (¬ 0 ≤ (what (ix i2_17)) → vp_in i2_17 320 ∧ ((piece (ix i2_17)) < 0 → K_19 i1_22 (i2_17 + 1) beyonds_24) ∧ (¬ (piece (ix i2_17)) < 0 → vp_in i3_23 320 ∧ wp_Model_beyond piece partner_2 i2_17 (fun r_28 => (¬ (piece (ix i3_23)) = r_28 → K_25 i1_22 (i3_23 + 1) beyonds_24) ∧ ((piece (ix i3_23)) = r_28 → vp_in i2_17 320 ∧ (i3_23 = (partner_2 (ix i2_17)) → K_25 i1_22 (i3_23 + 1) beyonds_24) ∧ (¬ i3_23 = (partner_2 (ix i2_17)) → vp_in i3_23 320 ∧ vp_in i2_17 320 ∧ ((beyonds_24 (ix i2_17)) ≤ (beyonds_24 (ix i3_23)) → K_25 i1_22 (i3_23 + 1) beyonds_24) ∧ (¬ (beyonds_24 (ix i2_17)) ≤ (beyonds_24 (ix i3_23)) → vp_in i3_23 320 ∧ vp_in i2_17 320 ∧ ∀ beyonds_29 : Nat → Int32, beyonds_29 = upd beyonds_24 (ix i2_17) (beyonds_24 (ix i3_23)) → K_25 1 (i3_23 + 1) beyonds_29)))))))) n i1_16 0 beyonds_18)) n 0 0 beyonds_12)) n 1 beyonds_7) ∧ (¬ items ≤ i1_6 → vp_in i1_6 320 ∧ (0 ≤ (what (ix i1_6)) → vp_in i1_6 320 ∧ vp_in i1_6 320 ∧ ∀ beyonds_31 : Nat → Int32, beyonds_31 = upd beyonds_7 (ix i1_6) (what (ix i1_6)) → K_8 (i1_6 + 1) beyonds_31) ∧ (¬ 0 ≤ (what (ix i1_6)) → vp_in i1_6 320 ∧ ∀ beyonds_33 : Nat → Int32, beyonds_33 = upd beyonds_7 (ix i1_6) 100 → K_8 (i1_6 + 1) beyonds_33))) n 0 beyonds) ∧ (¬ joints ≤ i1_1 → wp_Model_itemOf what i1_1 (-1) (fun r_35 => wp_Model_itemOf what i1_1 r_35 (fun r_36 => vp_in r_35 320 ∧ ∀ partner_37 : Nat → Int32, partner_37 = upd partner_2 (ix r_35) r_36 → vp_in r_36 320 ∧ ∀ partner_39 : Nat → Int32, partner_39 = upd partner_37 (ix r_36) r_35 → K_3 (i1_1 + 1) partner_39)))) n 0 partner
set_option maxHeartbeats 4000000 in
set_option maxRecDepth 100000 in
theorem bd_Model_lookBeyond {p : Program} {l : Launch} {e : Env} {R : Room} {s : State} {m : MethodId} {args : Array Value} {below : List Frame} {meth : Method} {c : Code} {D : va_G} {A B : Nat → Prop} {Q : State → Prop} {cI cJ cZ : ClassId} {a_t a_ends a_there a_one a_two a_what a_piece a_kinds a_group a_many a_pieceOf a_numberOf a_ups a_jointUp a_partner a_beyonds a_gone : Nat} {thrown : Int32} {made : Int32} {tree : Int32} {items : Int32} {what : Nat → Int32} {piece : Nat → Int32} {pieces : Int32} {joints : Int32} {nodes : Int32} {partner : Nat → Int32} {beyonds : Nat → Int32}  (K : sk_C p s m args meth c c_Model_lookBeyond 4 "SkeletonTreeModel" D (tyl cI cJ cZ)) (hR1 : 1 ≤ R.frames) (hR2 : 23 ≤ R.locals) (hBA : ∀ q : Nat, B q → A q) {post : (Nat → Int32) → (Nat → Int32) → Prop} (hend : ∀ (ti pc : Nat)  (y0 : Nat → Int32) (y1 : Nat → Int32) (lv : List (Nat × Value)), t_Model_lookBeyond[ti]? = some (pc, .return_, 1) → post  y0 y1 → AW p l e R s m args below meth c D A B 4 Q 0 0 (w_Model_lookBeyond cI cJ cZ a_t a_ends a_there a_one a_two a_what a_piece a_kinds a_group a_many a_pieceOf a_numberOf a_ups a_jointUp a_partner a_beyonds a_gone thrown made tree items what piece pieces joints nodes y0 y1) lv pc []) (h : wp_Model_lookBeyond items what piece joints partner beyonds post) : AW p l e R s m args below meth c D A B 4 Q 0 0 (w_Model_lookBeyond cI cJ cZ a_t a_ends a_there a_one a_two a_what a_piece a_kinds a_group a_many a_pieceOf a_numberOf a_ups a_jointUp a_partner a_beyonds a_gone thrown made tree items what piece pieces joints nodes partner beyonds) [(0, .ref a_t)] 0 [] := by
  unfold wp_Model_lookBeyond at h
  refine A_iconst K d_Model_lookBeyond 0 (pc' := 1) (v := 0) rfl rfl (by decide) ?_
  refine A_istore_n K d_Model_lookBeyond 1 (pc' := 2) (lv' := [(1, .int 0), (0, .ref a_t)]) rfl rfl rfl (by decide) rfl ?_
  refine A_lv [1, 0] rfl ?_
  obtain ⟨n_5, h⟩ := h
  refine sL2_ind (fun (i1_1 : Int32) (partner_2 : Nat → Int32) => AW p l e R s m args below meth c D A B 4 Q 0 0 (w_Model_lookBeyond cI cJ cZ a_t a_ends a_there a_one a_two a_what a_piece a_kinds a_group a_many a_pieceOf a_numberOf a_ups a_jointUp a_partner a_beyonds a_gone thrown made tree items what piece pieces joints nodes partner_2 beyonds) [(0, .ref a_t), (1, .int i1_1)] 2 []) ?_ n_5 _ _ h
  intro K_3 ih_4 i1_1 partner_2 h
  refine A_iload_n K d_Model_lookBeyond 2 1 (pc' := 3) rfl rfl rfl rfl ?_
  refine A_aload_n K d_Model_lookBeyond 3 0 (pc' := 4) rfl rfl rfl rfl ?_
  refine A_get K d_Model_lookBeyond 4 0 fl_Model_133 (pc' := 7) rfl rfl rfl rfl ?_
  refine A_icmp_ge K d_Model_lookBeyond 5 44 (pc' := 10) rfl rfl rfl (fun q => ?_) (fun q => ?_)
  · replace h := h.1 q
    refine A_iconst K d_Model_lookBeyond 28 (pc' := 45) (v := 0) rfl rfl (by decide) ?_
    refine A_istore_n K d_Model_lookBeyond 29 (pc' := 46) (lv' := [(1, .int 0), (0, .ref a_t)]) rfl rfl rfl (by decide) rfl ?_
    refine A_lv [1, 0] rfl ?_
    obtain ⟨n_10, h⟩ := h
    refine sL2_ind (fun (i1_6 : Int32) (beyonds_7 : Nat → Int32) => AW p l e R s m args below meth c D A B 4 Q 0 0 (w_Model_lookBeyond cI cJ cZ a_t a_ends a_there a_one a_two a_what a_piece a_kinds a_group a_many a_pieceOf a_numberOf a_ups a_jointUp a_partner a_beyonds a_gone thrown made tree items what piece pieces joints nodes partner_2 beyonds_7) [(0, .ref a_t), (1, .int i1_6)] 46 []) ?_ n_10 _ _ h
    intro K_8 ih_9 i1_6 beyonds_7 h
    refine A_iload_n K d_Model_lookBeyond 30 1 (pc' := 47) rfl rfl rfl rfl ?_
    refine A_aload_n K d_Model_lookBeyond 31 0 (pc' := 48) rfl rfl rfl rfl ?_
    refine A_get K d_Model_lookBeyond 32 0 fl_Model_98 (pc' := 51) rfl rfl rfl rfl ?_
    refine A_icmp_ge K d_Model_lookBeyond 33 86 (pc' := 54) rfl rfl rfl (fun q => ?_) (fun q => ?_)
    · replace h := h.1 q
      refine A_iconst K d_Model_lookBeyond 51 (pc' := 87) (v := 1) rfl rfl (by decide) ?_
      refine A_istore_n K d_Model_lookBeyond 52 (pc' := 88) (lv' := [(1, .int 1), (0, .ref a_t)]) rfl rfl rfl (by decide) rfl ?_
      refine A_lv [1, 0] rfl ?_
      obtain ⟨n_15, h⟩ := h
      refine sL2_ind (fun (i1_11 : Int32) (beyonds_12 : Nat → Int32) => AW p l e R s m args below meth c D A B 4 Q 0 0 (w_Model_lookBeyond cI cJ cZ a_t a_ends a_there a_one a_two a_what a_piece a_kinds a_group a_many a_pieceOf a_numberOf a_ups a_jointUp a_partner a_beyonds a_gone thrown made tree items what piece pieces joints nodes partner_2 beyonds_12) [(0, .ref a_t), (1, .int i1_11)] 88 []) ?_ n_15 _ _ h
      intro K_13 ih_14 i1_11 beyonds_12 h
      refine A_iload_n K d_Model_lookBeyond 53 1 (pc' := 89) rfl rfl rfl rfl ?_
      refine A_if_eq K d_Model_lookBeyond 54 200 (pc' := 92) rfl rfl rfl (fun q => ?_) (fun q => ?_)
      · replace h := h.1 q
        exact hend 117 _ _ _ _ rfl h
      · replace h := h.2 q
        refine A_iconst K d_Model_lookBeyond 55 (pc' := 93) (v := 0) rfl rfl (by decide) ?_
        refine A_istore_n K d_Model_lookBeyond 56 (pc' := 94) (lv' := [(1, .int 0), (0, .ref a_t)]) rfl rfl rfl (by decide) rfl ?_
        refine A_iconst K d_Model_lookBeyond 57 (pc' := 95) (v := 0) rfl rfl (by decide) ?_
        refine A_istore_n K d_Model_lookBeyond 58 (pc' := 96) (lv' := [(2, .int 0), (1, .int 0), (0, .ref a_t)]) rfl rfl rfl (by decide) rfl ?_
        refine A_lv [2, 1, 0] rfl ?_
        obtain ⟨n_21, h⟩ := h
        refine sL3_ind (fun (i1_16 : Int32) (i2_17 : Int32) (beyonds_18 : Nat → Int32) => AW p l e R s m args below meth c D A B 4 Q 0 0 (w_Model_lookBeyond cI cJ cZ a_t a_ends a_there a_one a_two a_what a_piece a_kinds a_group a_many a_pieceOf a_numberOf a_ups a_jointUp a_partner a_beyonds a_gone thrown made tree items what piece pieces joints nodes partner_2 beyonds_18) [(0, .ref a_t), (1, .int i1_16), (2, .int i2_17)] 96 []) ?_ n_21 _ _ _ h
        intro K_19 ih_20 i1_16 i2_17 beyonds_18 h
        refine A_iload_n K d_Model_lookBeyond 59 2 (pc' := 97) rfl rfl rfl rfl ?_
        refine A_aload_n K d_Model_lookBeyond 60 0 (pc' := 98) rfl rfl rfl rfl ?_
        refine A_get K d_Model_lookBeyond 61 0 fl_Model_98 (pc' := 101) rfl rfl rfl rfl ?_
        refine A_icmp_ge K d_Model_lookBeyond 62 197 (pc' := 104) rfl rfl rfl (fun q => ?_) (fun q => ?_)
        · replace h := h.1 q
          refine A_goto K d_Model_lookBeyond 116 (pc' := 88) rfl rfl ?_
          refine A_lv [0, 1] rfl ?_
          exact ih_14 _ _ h
        · replace h := h.2 q
          refine A_iconst K d_Model_lookBeyond 63 (pc' := 105) (v := 0) rfl rfl (by decide) ?_
          refine A_istore_n K d_Model_lookBeyond 64 (pc' := 106) (lv' := [(3, .int 0), (0, .ref a_t), (1, .int i1_16), (2, .int i2_17)]) rfl rfl rfl (by decide) rfl ?_
          refine A_lv [1, 2, 3, 0] rfl ?_
          obtain ⟨n_27, h⟩ := h
          refine sL3_ind (fun (i1_22 : Int32) (i3_23 : Int32) (beyonds_24 : Nat → Int32) => AW p l e R s m args below meth c D A B 4 Q 0 0 (w_Model_lookBeyond cI cJ cZ a_t a_ends a_there a_one a_two a_what a_piece a_kinds a_group a_many a_pieceOf a_numberOf a_ups a_jointUp a_partner a_beyonds a_gone thrown made tree items what piece pieces joints nodes partner_2 beyonds_24) [(0, .ref a_t), (1, .int i1_22), (2, .int i2_17), (3, .int i3_23)] 106 []) ?_ n_27 _ _ _ h
          intro K_25 ih_26 i1_22 i3_23 beyonds_24 h
          refine A_iload_n K d_Model_lookBeyond 65 3 (pc' := 107) rfl rfl rfl rfl ?_
          refine A_aload_n K d_Model_lookBeyond 66 0 (pc' := 108) rfl rfl rfl rfl ?_
          refine A_get K d_Model_lookBeyond 67 0 fl_Model_98 (pc' := 111) rfl rfl rfl rfl ?_
          refine A_icmp_ge K d_Model_lookBeyond 68 191 (pc' := 114) rfl rfl rfl (fun q => ?_) (fun q => ?_)
          · replace h := h.1 q
            refine A_iinc K d_Model_lookBeyond 114 2 (pc' := 194) (v := i2_17 + 1) (lv' := [(2, .int (i2_17 + 1)), (0, .ref a_t), (1, .int i1_22), (3, .int i3_23)]) rfl rfl rfl rfl (by decide) rfl ?_
            refine A_goto K d_Model_lookBeyond 115 (pc' := 96) rfl rfl ?_
            refine A_lv [1, 2, 0] rfl ?_
            exact ih_20 _ _ _ h
          · replace h := h.2 q
            refine A_aload_n K d_Model_lookBeyond 69 0 (pc' := 115) rfl rfl rfl rfl ?_
            refine A_get K d_Model_lookBeyond 70 0 fl_Model_23 (pc' := 118) rfl rfl rfl rfl ?_
            refine A_iload_n K d_Model_lookBeyond 71 2 (pc' := 119) rfl rfl rfl rfl ?_
            refine A_iald K d_Model_lookBeyond 72 1 0 (pc' := 120) rfl rfl rfl rfl h.1 ?_
            replace h := h.2
            refine A_if_ge K d_Model_lookBeyond 73 191 (pc' := 123) rfl rfl rfl (fun q => ?_) (fun q => ?_)
            · replace h := h.1 q
              refine A_iinc K d_Model_lookBeyond 114 2 (pc' := 194) (v := i2_17 + 1) (lv' := [(2, .int (i2_17 + 1)), (0, .ref a_t), (1, .int i1_22), (3, .int i3_23)]) rfl rfl rfl rfl (by decide) rfl ?_
              refine A_goto K d_Model_lookBeyond 115 (pc' := 96) rfl rfl ?_
              refine A_lv [1, 2, 0] rfl ?_
              exact ih_20 _ _ _ h
            · replace h := h.2 q
              refine A_aload_n K d_Model_lookBeyond 74 0 (pc' := 124) rfl rfl rfl rfl ?_
              refine A_get K d_Model_lookBeyond 75 0 fl_Model_26 (pc' := 127) rfl rfl rfl rfl ?_
              refine A_iload_n K d_Model_lookBeyond 76 2 (pc' := 128) rfl rfl rfl rfl ?_
              refine A_iald K d_Model_lookBeyond 77 2 0 (pc' := 129) rfl rfl rfl rfl h.1 ?_
              replace h := h.2
              refine A_if_lt K d_Model_lookBeyond 78 191 (pc' := 132) rfl rfl rfl (fun q => ?_) (fun q => ?_)
              · replace h := h.1 q
                refine A_iinc K d_Model_lookBeyond 114 2 (pc' := 194) (v := i2_17 + 1) (lv' := [(2, .int (i2_17 + 1)), (0, .ref a_t), (1, .int i1_22), (3, .int i3_23)]) rfl rfl rfl rfl (by decide) rfl ?_
                refine A_goto K d_Model_lookBeyond 115 (pc' := 96) rfl rfl ?_
                refine A_lv [1, 2, 0] rfl ?_
                exact ih_20 _ _ _ h
              · replace h := h.2 q
                refine A_aload_n K d_Model_lookBeyond 79 0 (pc' := 133) rfl rfl rfl rfl ?_
                refine A_get K d_Model_lookBeyond 80 0 fl_Model_26 (pc' := 136) rfl rfl rfl rfl ?_
                refine A_iload_n K d_Model_lookBeyond 81 3 (pc' := 137) rfl rfl rfl rfl ?_
                refine A_iald K d_Model_lookBeyond 82 2 0 (pc' := 138) rfl rfl rfl rfl h.1 ?_
                replace h := h.2
                refine A_aload_n K d_Model_lookBeyond 83 0 (pc' := 139) rfl rfl rfl rfl ?_
                refine A_iload_n K d_Model_lookBeyond 84 2 (pc' := 140) rfl rfl rfl rfl ?_
                refine R_callV_i K d_Model_lookBeyond 85 [0, 2, 3] (As := [.int i2_17]) (rest := [.int (piece (ix i3_23))]) (pc' := 143) v_Model_143 ⟨rfl, rfl, Nat.le_trans (Nat.le_of_ble_eq_true rfl) hR1, Nat.le_trans (Nat.le_of_ble_eq_true rfl) hR2⟩ (fun sz => met_Model_beyond l D cI cJ cZ a_t a_ends a_there a_one a_two a_what a_piece a_kinds a_group a_many a_pieceOf a_numberOf a_ups a_jointUp a_partner a_beyonds a_gone thrown made tree items piece pieces joints nodes partner_2 i2_17 _ sz) h rfl rfl rfl rfl rfl rfl (Nat.le_of_ble_eq_true rfl) ⟨Nat.zero_le _, Nat.zero_le _⟩ (q0 := 0) rfl rfl (fun r_28 h => ?_)
                refine A_icmp_ne K d_Model_lookBeyond 86 185 (pc' := 146) rfl rfl rfl (fun q => ?_) (fun q => ?_)
                · replace h := h.1 q
                  refine A_iinc K d_Model_lookBeyond 112 3 (pc' := 188) (v := i3_23 + 1) (lv' := [(3, .int (i3_23 + 1)), (0, .ref a_t), (1, .int i1_22), (2, .int i2_17)]) rfl rfl rfl rfl (by decide) rfl ?_
                  refine A_goto K d_Model_lookBeyond 113 (pc' := 106) rfl rfl ?_
                  refine A_lv [1, 2, 3, 0] rfl ?_
                  exact ih_26 _ _ _ h
                · replace h := h.2 q
                  refine A_iload_n K d_Model_lookBeyond 87 3 (pc' := 147) rfl rfl rfl rfl ?_
                  refine A_aload_n K d_Model_lookBeyond 88 0 (pc' := 148) rfl rfl rfl rfl ?_
                  refine A_get K d_Model_lookBeyond 89 0 fl_Model_50 (pc' := 151) rfl rfl rfl rfl ?_
                  refine A_iload_n K d_Model_lookBeyond 90 2 (pc' := 152) rfl rfl rfl rfl ?_
                  refine A_iald K d_Model_lookBeyond 91 3 0 (pc' := 153) rfl rfl rfl rfl h.1 ?_
                  replace h := h.2
                  refine A_icmp_eq K d_Model_lookBeyond 92 185 (pc' := 156) rfl rfl rfl (fun q => ?_) (fun q => ?_)
                  · replace h := h.1 q
                    refine A_iinc K d_Model_lookBeyond 112 3 (pc' := 188) (v := i3_23 + 1) (lv' := [(3, .int (i3_23 + 1)), (0, .ref a_t), (1, .int i1_22), (2, .int i2_17)]) rfl rfl rfl rfl (by decide) rfl ?_
                    refine A_goto K d_Model_lookBeyond 113 (pc' := 106) rfl rfl ?_
                    refine A_lv [1, 2, 3, 0] rfl ?_
                    exact ih_26 _ _ _ h
                  · replace h := h.2 q
                    refine A_aload_n K d_Model_lookBeyond 93 0 (pc' := 157) rfl rfl rfl rfl ?_
                    refine A_get K d_Model_lookBeyond 94 0 fl_Model_53 (pc' := 160) rfl rfl rfl rfl ?_
                    refine A_iload_n K d_Model_lookBeyond 95 3 (pc' := 161) rfl rfl rfl rfl ?_
                    refine A_iald K d_Model_lookBeyond 96 4 0 (pc' := 162) rfl rfl rfl rfl h.1 ?_
                    replace h := h.2
                    refine A_aload_n K d_Model_lookBeyond 97 0 (pc' := 163) rfl rfl rfl rfl ?_
                    refine A_get K d_Model_lookBeyond 98 0 fl_Model_53 (pc' := 166) rfl rfl rfl rfl ?_
                    refine A_iload_n K d_Model_lookBeyond 99 2 (pc' := 167) rfl rfl rfl rfl ?_
                    refine A_iald K d_Model_lookBeyond 100 4 0 (pc' := 168) rfl rfl rfl rfl h.1 ?_
                    replace h := h.2
                    refine A_icmp_ge K d_Model_lookBeyond 101 185 (pc' := 171) rfl rfl rfl (fun q => ?_) (fun q => ?_)
                    · replace h := h.1 q
                      refine A_iinc K d_Model_lookBeyond 112 3 (pc' := 188) (v := i3_23 + 1) (lv' := [(3, .int (i3_23 + 1)), (0, .ref a_t), (1, .int i1_22), (2, .int i2_17)]) rfl rfl rfl rfl (by decide) rfl ?_
                      refine A_goto K d_Model_lookBeyond 113 (pc' := 106) rfl rfl ?_
                      refine A_lv [1, 2, 3, 0] rfl ?_
                      exact ih_26 _ _ _ h
                    · replace h := h.2 q
                      refine A_aload_n K d_Model_lookBeyond 102 0 (pc' := 172) rfl rfl rfl rfl ?_
                      refine A_get K d_Model_lookBeyond 103 0 fl_Model_53 (pc' := 175) rfl rfl rfl rfl ?_
                      refine A_iload_n K d_Model_lookBeyond 104 2 (pc' := 176) rfl rfl rfl rfl ?_
                      refine A_aload_n K d_Model_lookBeyond 105 0 (pc' := 177) rfl rfl rfl rfl ?_
                      refine A_get K d_Model_lookBeyond 106 0 fl_Model_53 (pc' := 180) rfl rfl rfl rfl ?_
                      refine A_iload_n K d_Model_lookBeyond 107 3 (pc' := 181) rfl rfl rfl rfl ?_
                      refine A_iald K d_Model_lookBeyond 108 4 0 (pc' := 182) rfl rfl rfl rfl h.1 ?_
                      replace h := h.2
                      refine A_iastN K hBA d_Model_lookBeyond 109 4 0 (pc' := 183) (ws' := fun beyonds_29 => w_Model_lookBeyond cI cJ cZ a_t a_ends a_there a_one a_two a_what a_piece a_kinds a_group a_many a_pieceOf a_numberOf a_ups a_jointUp a_partner a_beyonds a_gone thrown made tree items what piece pieces joints nodes partner_2 beyonds_29) rfl rfl rfl rfl h.1 (fun _ => rfl) (fun beyonds_29 e_30 => ?_)
                      replace h := h.2 beyonds_29 e_30
                      refine A_iconst K d_Model_lookBeyond 110 (pc' := 184) (v := 1) rfl rfl (by decide) ?_
                      refine A_istore_n K d_Model_lookBeyond 111 (pc' := 185) (lv' := [(1, .int 1), (0, .ref a_t), (2, .int i2_17), (3, .int i3_23)]) rfl rfl rfl (by decide) rfl ?_
                      refine A_iinc K d_Model_lookBeyond 112 3 (pc' := 188) (v := i3_23 + 1) (lv' := [(3, .int (i3_23 + 1)), (1, .int 1), (0, .ref a_t), (2, .int i2_17)]) rfl rfl rfl rfl (by decide) rfl ?_
                      refine A_goto K d_Model_lookBeyond 113 (pc' := 106) rfl rfl ?_
                      refine A_lv [2, 1, 3, 0] rfl ?_
                      exact ih_26 _ _ _ h
    · replace h := h.2 q
      refine A_aload_n K d_Model_lookBeyond 34 0 (pc' := 55) rfl rfl rfl rfl ?_
      refine A_get K d_Model_lookBeyond 35 0 fl_Model_53 (pc' := 58) rfl rfl rfl rfl ?_
      refine A_iload_n K d_Model_lookBeyond 36 1 (pc' := 59) rfl rfl rfl rfl ?_
      refine A_aload_n K d_Model_lookBeyond 37 0 (pc' := 60) rfl rfl rfl rfl ?_
      refine A_get K d_Model_lookBeyond 38 0 fl_Model_23 (pc' := 63) rfl rfl rfl rfl ?_
      refine A_iload_n K d_Model_lookBeyond 39 1 (pc' := 64) rfl rfl rfl rfl ?_
      refine A_iald K d_Model_lookBeyond 40 1 0 (pc' := 65) rfl rfl rfl rfl h.1 ?_
      replace h := h.2
      refine A_if_ge K d_Model_lookBeyond 41 73 (pc' := 68) rfl rfl rfl (fun q => ?_) (fun q => ?_)
      · replace h := h.1 q
        refine A_aload_n K d_Model_lookBeyond 44 0 (pc' := 74) rfl rfl rfl rfl ?_
        refine A_get K d_Model_lookBeyond 45 0 fl_Model_23 (pc' := 77) rfl rfl rfl rfl ?_
        refine A_iload_n K d_Model_lookBeyond 46 1 (pc' := 78) rfl rfl rfl rfl ?_
        refine A_iald K d_Model_lookBeyond 47 1 0 (pc' := 79) rfl rfl rfl rfl h.1 ?_
        replace h := h.2
        refine A_iastN K hBA d_Model_lookBeyond 48 4 0 (pc' := 80) (ws' := fun beyonds_31 => w_Model_lookBeyond cI cJ cZ a_t a_ends a_there a_one a_two a_what a_piece a_kinds a_group a_many a_pieceOf a_numberOf a_ups a_jointUp a_partner a_beyonds a_gone thrown made tree items what piece pieces joints nodes partner_2 beyonds_31) rfl rfl rfl rfl h.1 (fun _ => rfl) (fun beyonds_31 e_32 => ?_)
        replace h := h.2 beyonds_31 e_32
        refine A_iinc K d_Model_lookBeyond 49 1 (pc' := 83) (v := i1_6 + 1) (lv' := [(1, .int (i1_6 + 1)), (0, .ref a_t)]) rfl rfl rfl rfl (by decide) rfl ?_
        refine A_goto K d_Model_lookBeyond 50 (pc' := 46) rfl rfl ?_
        refine A_lv [1, 0] rfl ?_
        exact ih_9 _ _ h
      · replace h := h.2 q
        refine A_bipush K d_Model_lookBeyond 42 (pc' := 70) (v := 100) rfl rfl (by decide) ?_
        refine A_goto K d_Model_lookBeyond 43 (pc' := 79) rfl rfl ?_
        refine A_iastN K hBA d_Model_lookBeyond 48 4 0 (pc' := 80) (ws' := fun beyonds_33 => w_Model_lookBeyond cI cJ cZ a_t a_ends a_there a_one a_two a_what a_piece a_kinds a_group a_many a_pieceOf a_numberOf a_ups a_jointUp a_partner a_beyonds a_gone thrown made tree items what piece pieces joints nodes partner_2 beyonds_33) rfl rfl rfl rfl h.1 (fun _ => rfl) (fun beyonds_33 e_34 => ?_)
        replace h := h.2 beyonds_33 e_34
        refine A_iinc K d_Model_lookBeyond 49 1 (pc' := 83) (v := i1_6 + 1) (lv' := [(1, .int (i1_6 + 1)), (0, .ref a_t)]) rfl rfl rfl rfl (by decide) rfl ?_
        refine A_goto K d_Model_lookBeyond 50 (pc' := 46) rfl rfl ?_
        refine A_lv [1, 0] rfl ?_
        exact ih_9 _ _ h
  · replace h := h.2 q
    refine A_aload_n K d_Model_lookBeyond 6 0 (pc' := 11) rfl rfl rfl rfl ?_
    refine A_iload_n K d_Model_lookBeyond 7 1 (pc' := 12) rfl rfl rfl rfl ?_
    refine A_iconst K d_Model_lookBeyond 8 (pc' := 13) (v := (-1)) rfl rfl (by decide) ?_
    refine R_callV_i K d_Model_lookBeyond 9 [0, 1] (As := [.int i1_1, .int (-1)]) (rest := []) (pc' := 16) v_Model_139 ⟨rfl, rfl, Nat.le_trans (Nat.le_of_ble_eq_true rfl) hR1, Nat.le_trans (Nat.le_of_ble_eq_true rfl) hR2⟩ (fun sz => met_Model_itemOf l D cI cJ cZ a_t a_ends a_there a_one a_two a_what a_piece a_kinds a_group a_many a_pieceOf a_numberOf a_ups a_jointUp a_partner a_beyonds a_gone thrown made tree items what pieces joints nodes i1_1 (-1) _ sz) h rfl rfl rfl rfl rfl rfl (Nat.le_of_ble_eq_true rfl) ⟨Nat.zero_le _, Nat.zero_le _⟩ (q0 := 0) rfl rfl (fun r_35 h => ?_)
    refine A_istore_n K d_Model_lookBeyond 10 (pc' := 17) (lv' := [(2, .int r_35), (0, .ref a_t), (1, .int i1_1)]) rfl rfl rfl (by decide) rfl ?_
    refine A_aload_n K d_Model_lookBeyond 11 1 (pc' := 18) rfl rfl rfl rfl ?_
    refine A_iload_n K d_Model_lookBeyond 12 2 (pc' := 19) rfl rfl rfl rfl ?_
    refine A_iload_n K d_Model_lookBeyond 13 0 (pc' := 20) rfl rfl rfl rfl ?_
    refine R_callV_i K d_Model_lookBeyond 14 [0, 1] (As := [.int i1_1, .int r_35]) (rest := []) (pc' := 23) v_Model_139 ⟨rfl, rfl, Nat.le_trans (Nat.le_of_ble_eq_true rfl) hR1, Nat.le_trans (Nat.le_of_ble_eq_true rfl) hR2⟩ (fun sz => met_Model_itemOf l D cI cJ cZ a_t a_ends a_there a_one a_two a_what a_piece a_kinds a_group a_many a_pieceOf a_numberOf a_ups a_jointUp a_partner a_beyonds a_gone thrown made tree items what pieces joints nodes i1_1 r_35 _ sz) h rfl rfl rfl rfl rfl rfl (Nat.le_of_ble_eq_true rfl) ⟨Nat.zero_le _, Nat.zero_le _⟩ (q0 := 0) rfl rfl (fun r_36 h => ?_)
    refine A_istore_n K d_Model_lookBeyond 15 (pc' := 24) (lv' := [(3, .int r_36), (2, .int r_35), (0, .ref a_t), (1, .int i1_1)]) rfl rfl rfl (by decide) rfl ?_
    refine A_aload_n K d_Model_lookBeyond 16 2 (pc' := 25) rfl rfl rfl rfl ?_
    refine A_get K d_Model_lookBeyond 17 0 fl_Model_50 (pc' := 28) rfl rfl rfl rfl ?_
    refine A_iload_n K d_Model_lookBeyond 18 1 (pc' := 29) rfl rfl rfl rfl ?_
    refine A_iload_n K d_Model_lookBeyond 19 0 (pc' := 30) rfl rfl rfl rfl ?_
    refine A_iastN K hBA d_Model_lookBeyond 20 3 0 (pc' := 31) (ws' := fun partner_37 => w_Model_lookBeyond cI cJ cZ a_t a_ends a_there a_one a_two a_what a_piece a_kinds a_group a_many a_pieceOf a_numberOf a_ups a_jointUp a_partner a_beyonds a_gone thrown made tree items what piece pieces joints nodes partner_37 beyonds) rfl rfl rfl rfl h.1 (fun _ => rfl) (fun partner_37 e_38 => ?_)
    replace h := h.2 partner_37 e_38
    refine A_aload_n K d_Model_lookBeyond 21 2 (pc' := 32) rfl rfl rfl rfl ?_
    refine A_get K d_Model_lookBeyond 22 0 fl_Model_50 (pc' := 35) rfl rfl rfl rfl ?_
    refine A_iload_n K d_Model_lookBeyond 23 0 (pc' := 36) rfl rfl rfl rfl ?_
    refine A_iload_n K d_Model_lookBeyond 24 1 (pc' := 37) rfl rfl rfl rfl ?_
    refine A_iastN K hBA d_Model_lookBeyond 25 3 0 (pc' := 38) (ws' := fun partner_39 => w_Model_lookBeyond cI cJ cZ a_t a_ends a_there a_one a_two a_what a_piece a_kinds a_group a_many a_pieceOf a_numberOf a_ups a_jointUp a_partner a_beyonds a_gone thrown made tree items what piece pieces joints nodes partner_39 beyonds) rfl rfl rfl rfl h.1 (fun _ => rfl) (fun partner_39 e_40 => ?_)
    replace h := h.2 partner_39 e_40
    refine A_iinc K d_Model_lookBeyond 26 3 (pc' := 41) (v := i1_1 + 1) (lv' := [(1, .int (i1_1 + 1)), (3, .int r_36), (2, .int r_35), (0, .ref a_t)]) rfl rfl rfl rfl (by decide) rfl ?_
    refine A_goto K d_Model_lookBeyond 27 (pc' := 2) rfl rfl ?_
    refine A_lv [3, 0] rfl ?_
    exact ih_4 _ _ h
theorem met_Model_lookBeyond (l : Launch) (D : va_G) (cI cJ cZ : ClassId) (a_t a_ends a_there a_one a_two a_what a_piece a_kinds a_group a_many a_pieceOf a_numberOf a_ups a_jointUp a_partner a_beyonds a_gone : Nat) (thrown : Int32) (made : Int32) (tree : Int32) (items : Int32) (what : Nat → Int32) (piece : Nat → Int32) (pieces : Int32) (joints : Int32) (nodes : Int32) (partner : Nat → Int32) (beyonds : Nat → Int32)  (post : (Nat → Int32) → (Nat → Int32) → Prop) (sz : Nat) : Met l y_Model_lookBeyond (Cond.code y_Model_lookBeyond c_Model_lookBeyond 4 (Option.none : Option Jvm.ClassFile.FieldType) :: GW) { frames := 1, cells := 0, slots := 0, locals := 23 } (va_Pc [.ref a_t] (fun U => sk_P D (tyl cI cJ cZ) (w_Model_lookBeyond cI cJ cZ a_t a_ends a_there a_one a_two a_what a_piece a_kinds a_group a_many a_pieceOf a_numberOf a_ups a_jointUp a_partner a_beyonds a_gone thrown made tree items what piece pieces joints nodes partner beyonds) sz U ∧ wp_Model_lookBeyond items what piece joints partner beyonds post)) (va_Qv (fun (u : (Nat → Int32) × (Nat → Int32)) => post  u.1 u.2) (fun u t => sk_B D (tyl cI cJ cZ) (w_Model_lookBeyond cI cJ cZ a_t a_ends a_there a_one a_two a_what a_piece a_kinds a_group a_many a_pieceOf a_numberOf a_ups a_jointUp a_partner a_beyonds a_gone thrown made tree items what piece pieces joints nodes u.1 u.2) (va_A (w_Model_lookBeyond cI cJ cZ a_t a_ends a_there a_one a_two a_what a_piece a_kinds a_group a_many a_pieceOf a_numberOf a_ups a_jointUp a_partner a_beyonds a_gone thrown made tree items what piece pieces joints nodes partner beyonds) sz) t) (va_A (w_Model_lookBeyond cI cJ cZ a_t a_ends a_there a_one a_two a_what a_piece a_kinds a_group a_many a_pieceOf a_numberOf a_ups a_jointUp a_partner a_beyonds a_gone thrown made tree items what piece pieces joints nodes partner beyonds) sz)) 0 0 (va_A (w_Model_lookBeyond cI cJ cZ a_t a_ends a_there a_one a_two a_what a_piece a_kinds a_group a_many a_pieceOf a_numberOf a_ups a_jointUp a_partner a_beyonds a_gone thrown made tree items what piece pieces joints nodes partner beyonds) sz) :=
  sk_intro (by decide) (Nat.le_of_ble_eq_true rfl) (fun p e s m below meth c K hr _ h => bd_Model_lookBeyond K (Nat.le_refl _) (Nat.le_refl _) (fun _ z => z) (fun ti pc y0 y1 lv hd hp => A_vret K d_Model_lookBeyond ti hr (post := (fun (u : (Nat → Int32) × (Nat → Int32)) => post  u.1 u.2)) (wl := fun (u : (Nat → Int32) × (Nat → Int32)) => w_Model_lookBeyond cI cJ cZ a_t a_ends a_there a_one a_two a_what a_piece a_kinds a_group a_many a_pieceOf a_numberOf a_ups a_jointUp a_partner a_beyonds a_gone thrown made tree items what piece pieces joints nodes u.1 u.2) (y0, y1) hd hp) h)
/-! SkeletonTreeModel.begin(III)V -/
def t_Model_begin : List (Nat × Instr × Nat) := [(0, .aload_n 0, 1), (1, .getfield 38, 3), (4, .aload_n 0, 1), (5, .getfield 146, 3), (8, .iload_n 1, 1), (9, .iastore, 1), (10, .aload_n 0, 1), (11, .getfield 41, 3), (14, .iload_n 1, 1), (15, .aload_n 0, 1), (16, .getfield 146, 3), (19, .iastore, 1), (20, .aload_n 0, 1), (21, .getfield 44, 3), (24, .aload_n 0, 1), (25, .getfield 146, 3), (28, .iload_n 2, 1), (29, .iastore, 1), (30, .aload_n 0, 1), (31, .getfield 47, 3), (34, .aload_n 0, 1), (35, .getfield 146, 3), (38, .iload_n 3, 1), (39, .iastore, 1), (40, .aload_n 0, 1), (41, .getfield 56, 3), (44, .aload_n 0, 1), (45, .getfield 146, 3), (48, .iconst (-1), 1), (49, .iastore, 1), (50, .aload_n 0, 1), (51, .dup, 1), (52, .getfield 146, 3), (55, .iconst 1, 1), (56, .iadd, 1), (57, .putfield 146, 3), (60, .return_, 1)]
set_option maxRecDepth 100000 in
theorem d_Model_begin : sk_T c_Model_begin t_Model_begin := by unfold sk_T t_Model_begin; decide +kernel
def w_Model_begin (cI cJ cZ : ClassId) (a_t a_ends a_there a_one a_two a_what a_piece a_kinds a_group a_many a_pieceOf a_numberOf a_ups a_jointUp a_partner a_beyonds a_gone : Nat) (thrown : Int32) (made : Int32) (tree : Int32) (items : Int32) (pieces : Int32) (joints : Int32) (nodes : Int32) (pieceOf : Nat → Int32) (numberOf : Nat → Int32) (ups : Nat → Int32) (jointUp : Nat → Int32) (gone : Nat → Int32) : va_W := [(a_t, .inr (5, [.int thrown, .int made, .ref a_ends, .ref a_there, .int tree, .int items, .ref a_one, .ref a_two, .ref a_what, .ref a_piece, .int pieces, .int joints, .ref a_kinds, .ref a_group, .ref a_many, .int nodes, .ref a_pieceOf, .ref a_numberOf, .ref a_ups, .ref a_jointUp, .ref a_partner, .ref a_beyonds, .ref a_gone])), (a_pieceOf, .inl (cI, 110, .inl pieceOf)), (a_numberOf, .inl (cI, 110, .inl numberOf)), (a_ups, .inl (cI, 110, .inl ups)), (a_jointUp, .inl (cI, 110, .inl jointUp)), (a_gone, .inl (cI, 110, .inl gone))]
def wp_Model_begin  (nodes : Int32) (pieceOf : Nat → Int32) (numberOf : Nat → Int32) (ups : Nat → Int32) (jointUp : Nat → Int32) (gone : Nat → Int32) (x1 : Int32) (x2 : Int32) (x3 : Int32) (post : Int32 → (Nat → Int32) → (Nat → Int32) → (Nat → Int32) → (Nat → Int32) → (Nat → Int32) → Prop) : Prop :=
  vp_in nodes 110 ∧ ∀ pieceOf_1 : Nat → Int32, pieceOf_1 = upd pieceOf (ix nodes) x1 → vp_in x1 110 ∧ ∀ numberOf_3 : Nat → Int32, numberOf_3 = upd numberOf (ix x1) nodes → vp_in nodes 110 ∧ ∀ ups_5 : Nat → Int32, ups_5 = upd ups (ix nodes) x2 → vp_in nodes 110 ∧ ∀ jointUp_7 : Nat → Int32, jointUp_7 = upd jointUp (ix nodes) x3 → vp_in nodes 110 ∧ ∀ gone_9 : Nat → Int32, gone_9 = upd gone (ix nodes) (-1) → post (nodes + 1) pieceOf_1 numberOf_3 ups_5 jointUp_7 gone_9
set_option maxHeartbeats 4000000 in
set_option maxRecDepth 100000 in
theorem bd_Model_begin {p : Program} {l : Launch} {e : Env} {R : Room} {s : State} {m : MethodId} {args : Array Value} {below : List Frame} {meth : Method} {c : Code} {D : va_G} {A B : Nat → Prop} {Q : State → Prop} {cI cJ cZ : ClassId} {a_t a_ends a_there a_one a_two a_what a_piece a_kinds a_group a_many a_pieceOf a_numberOf a_ups a_jointUp a_partner a_beyonds a_gone : Nat} {thrown : Int32} {made : Int32} {tree : Int32} {items : Int32} {pieces : Int32} {joints : Int32} {nodes : Int32} {pieceOf : Nat → Int32} {numberOf : Nat → Int32} {ups : Nat → Int32} {jointUp : Nat → Int32} {gone : Nat → Int32} {x1 : Int32} {x2 : Int32} {x3 : Int32} (K : sk_C p s m args meth c c_Model_begin 4 "SkeletonTreeModel" D (tyl cI cJ cZ)) (hR1 : 0 ≤ R.frames) (hR2 : 0 ≤ R.locals) (hBA : ∀ q : Nat, B q → A q) {post : Int32 → (Nat → Int32) → (Nat → Int32) → (Nat → Int32) → (Nat → Int32) → (Nat → Int32) → Prop} (hend : ∀ (ti pc : Nat)  (y0 : Int32) (y1 : Nat → Int32) (y2 : Nat → Int32) (y3 : Nat → Int32) (y4 : Nat → Int32) (y5 : Nat → Int32) (lv : List (Nat × Value)), t_Model_begin[ti]? = some (pc, .return_, 1) → post  y0 y1 y2 y3 y4 y5 → AW p l e R s m args below meth c D A B 4 Q 0 0 (w_Model_begin cI cJ cZ a_t a_ends a_there a_one a_two a_what a_piece a_kinds a_group a_many a_pieceOf a_numberOf a_ups a_jointUp a_partner a_beyonds a_gone thrown made tree items pieces joints y0 y1 y2 y3 y4 y5) lv pc []) (h : wp_Model_begin nodes pieceOf numberOf ups jointUp gone x1 x2 x3 post) : AW p l e R s m args below meth c D A B 4 Q 0 0 (w_Model_begin cI cJ cZ a_t a_ends a_there a_one a_two a_what a_piece a_kinds a_group a_many a_pieceOf a_numberOf a_ups a_jointUp a_partner a_beyonds a_gone thrown made tree items pieces joints nodes pieceOf numberOf ups jointUp gone) [(0, .ref a_t), (1, .int x1), (2, .int x2), (3, .int x3)] 0 [] := by
  unfold wp_Model_begin at h
  refine A_aload_n K d_Model_begin 0 0 (pc' := 1) rfl rfl rfl rfl ?_
  refine A_get K d_Model_begin 1 0 fl_Model_38 (pc' := 4) rfl rfl rfl rfl ?_
  refine A_aload_n K d_Model_begin 2 0 (pc' := 5) rfl rfl rfl rfl ?_
  refine A_get K d_Model_begin 3 0 fl_Model_146 (pc' := 8) rfl rfl rfl rfl ?_
  refine A_iload_n K d_Model_begin 4 1 (pc' := 9) rfl rfl rfl rfl ?_
  refine A_iastN K hBA d_Model_begin 5 1 0 (pc' := 10) (ws' := fun pieceOf_1 => w_Model_begin cI cJ cZ a_t a_ends a_there a_one a_two a_what a_piece a_kinds a_group a_many a_pieceOf a_numberOf a_ups a_jointUp a_partner a_beyonds a_gone thrown made tree items pieces joints nodes pieceOf_1 numberOf ups jointUp gone) rfl rfl rfl rfl h.1 (fun _ => rfl) (fun pieceOf_1 e_2 => ?_)
  replace h := h.2 pieceOf_1 e_2
  refine A_aload_n K d_Model_begin 6 0 (pc' := 11) rfl rfl rfl rfl ?_
  refine A_get K d_Model_begin 7 0 fl_Model_41 (pc' := 14) rfl rfl rfl rfl ?_
  refine A_iload_n K d_Model_begin 8 1 (pc' := 15) rfl rfl rfl rfl ?_
  refine A_aload_n K d_Model_begin 9 0 (pc' := 16) rfl rfl rfl rfl ?_
  refine A_get K d_Model_begin 10 0 fl_Model_146 (pc' := 19) rfl rfl rfl rfl ?_
  refine A_iastN K hBA d_Model_begin 11 2 0 (pc' := 20) (ws' := fun numberOf_3 => w_Model_begin cI cJ cZ a_t a_ends a_there a_one a_two a_what a_piece a_kinds a_group a_many a_pieceOf a_numberOf a_ups a_jointUp a_partner a_beyonds a_gone thrown made tree items pieces joints nodes pieceOf_1 numberOf_3 ups jointUp gone) rfl rfl rfl rfl h.1 (fun _ => rfl) (fun numberOf_3 e_4 => ?_)
  replace h := h.2 numberOf_3 e_4
  refine A_aload_n K d_Model_begin 12 0 (pc' := 21) rfl rfl rfl rfl ?_
  refine A_get K d_Model_begin 13 0 fl_Model_44 (pc' := 24) rfl rfl rfl rfl ?_
  refine A_aload_n K d_Model_begin 14 0 (pc' := 25) rfl rfl rfl rfl ?_
  refine A_get K d_Model_begin 15 0 fl_Model_146 (pc' := 28) rfl rfl rfl rfl ?_
  refine A_iload_n K d_Model_begin 16 2 (pc' := 29) rfl rfl rfl rfl ?_
  refine A_iastN K hBA d_Model_begin 17 3 0 (pc' := 30) (ws' := fun ups_5 => w_Model_begin cI cJ cZ a_t a_ends a_there a_one a_two a_what a_piece a_kinds a_group a_many a_pieceOf a_numberOf a_ups a_jointUp a_partner a_beyonds a_gone thrown made tree items pieces joints nodes pieceOf_1 numberOf_3 ups_5 jointUp gone) rfl rfl rfl rfl h.1 (fun _ => rfl) (fun ups_5 e_6 => ?_)
  replace h := h.2 ups_5 e_6
  refine A_aload_n K d_Model_begin 18 0 (pc' := 31) rfl rfl rfl rfl ?_
  refine A_get K d_Model_begin 19 0 fl_Model_47 (pc' := 34) rfl rfl rfl rfl ?_
  refine A_aload_n K d_Model_begin 20 0 (pc' := 35) rfl rfl rfl rfl ?_
  refine A_get K d_Model_begin 21 0 fl_Model_146 (pc' := 38) rfl rfl rfl rfl ?_
  refine A_iload_n K d_Model_begin 22 3 (pc' := 39) rfl rfl rfl rfl ?_
  refine A_iastN K hBA d_Model_begin 23 4 0 (pc' := 40) (ws' := fun jointUp_7 => w_Model_begin cI cJ cZ a_t a_ends a_there a_one a_two a_what a_piece a_kinds a_group a_many a_pieceOf a_numberOf a_ups a_jointUp a_partner a_beyonds a_gone thrown made tree items pieces joints nodes pieceOf_1 numberOf_3 ups_5 jointUp_7 gone) rfl rfl rfl rfl h.1 (fun _ => rfl) (fun jointUp_7 e_8 => ?_)
  replace h := h.2 jointUp_7 e_8
  refine A_aload_n K d_Model_begin 24 0 (pc' := 41) rfl rfl rfl rfl ?_
  refine A_get K d_Model_begin 25 0 fl_Model_56 (pc' := 44) rfl rfl rfl rfl ?_
  refine A_aload_n K d_Model_begin 26 0 (pc' := 45) rfl rfl rfl rfl ?_
  refine A_get K d_Model_begin 27 0 fl_Model_146 (pc' := 48) rfl rfl rfl rfl ?_
  refine A_iconst K d_Model_begin 28 (pc' := 49) (v := (-1)) rfl rfl (by decide) ?_
  refine A_iastN K hBA d_Model_begin 29 5 0 (pc' := 50) (ws' := fun gone_9 => w_Model_begin cI cJ cZ a_t a_ends a_there a_one a_two a_what a_piece a_kinds a_group a_many a_pieceOf a_numberOf a_ups a_jointUp a_partner a_beyonds a_gone thrown made tree items pieces joints nodes pieceOf_1 numberOf_3 ups_5 jointUp_7 gone_9) rfl rfl rfl rfl h.1 (fun _ => rfl) (fun gone_9 e_10 => ?_)
  replace h := h.2 gone_9 e_10
  refine A_aload_n K d_Model_begin 30 0 (pc' := 51) rfl rfl rfl rfl ?_
  refine A_dup K d_Model_begin 31 (pc' := 52) rfl rfl rfl ?_
  refine A_get K d_Model_begin 32 0 fl_Model_146 (pc' := 55) rfl rfl rfl rfl ?_
  refine A_iconst K d_Model_begin 33 (pc' := 56) (v := 1) rfl rfl (by decide) ?_
  refine A_iadd K d_Model_begin 34 (pc' := 57) rfl rfl ?_
  refine A_put K hBA d_Model_begin 35 0 fp_Model_146 (pc' := 60) (ws' := w_Model_begin cI cJ cZ a_t a_ends a_there a_one a_two a_what a_piece a_kinds a_group a_many a_pieceOf a_numberOf a_ups a_jointUp a_partner a_beyonds a_gone thrown made tree items pieces joints (nodes + 1) pieceOf_1 numberOf_3 ups_5 jointUp_7 gone_9) rfl rfl rfl (Nat.le_of_ble_eq_true rfl) rfl rfl rfl ?_
  exact hend 36 _ _ _ _ _ _ _ _ rfl h
theorem met_Model_begin (l : Launch) (D : va_G) (cI cJ cZ : ClassId) (a_t a_ends a_there a_one a_two a_what a_piece a_kinds a_group a_many a_pieceOf a_numberOf a_ups a_jointUp a_partner a_beyonds a_gone : Nat) (thrown : Int32) (made : Int32) (tree : Int32) (items : Int32) (pieces : Int32) (joints : Int32) (nodes : Int32) (pieceOf : Nat → Int32) (numberOf : Nat → Int32) (ups : Nat → Int32) (jointUp : Nat → Int32) (gone : Nat → Int32) (x1 : Int32) (x2 : Int32) (x3 : Int32) (post : Int32 → (Nat → Int32) → (Nat → Int32) → (Nat → Int32) → (Nat → Int32) → (Nat → Int32) → Prop) (sz : Nat) : Met l y_Model_begin (Cond.code y_Model_begin c_Model_begin 4 (Option.none : Option Jvm.ClassFile.FieldType) :: GW) { frames := 0, cells := 0, slots := 0, locals := 0 } (va_Pc [.ref a_t, .int x1, .int x2, .int x3] (fun U => sk_P D (tyl cI cJ cZ) (w_Model_begin cI cJ cZ a_t a_ends a_there a_one a_two a_what a_piece a_kinds a_group a_many a_pieceOf a_numberOf a_ups a_jointUp a_partner a_beyonds a_gone thrown made tree items pieces joints nodes pieceOf numberOf ups jointUp gone) sz U ∧ wp_Model_begin nodes pieceOf numberOf ups jointUp gone x1 x2 x3 post)) (va_Qv (fun (u : Int32 × (Nat → Int32) × (Nat → Int32) × (Nat → Int32) × (Nat → Int32) × (Nat → Int32)) => post  u.1 u.2.1 u.2.2.1 u.2.2.2.1 u.2.2.2.2.1 u.2.2.2.2.2) (fun u t => sk_B D (tyl cI cJ cZ) (w_Model_begin cI cJ cZ a_t a_ends a_there a_one a_two a_what a_piece a_kinds a_group a_many a_pieceOf a_numberOf a_ups a_jointUp a_partner a_beyonds a_gone thrown made tree items pieces joints u.1 u.2.1 u.2.2.1 u.2.2.2.1 u.2.2.2.2.1 u.2.2.2.2.2) (va_A (w_Model_begin cI cJ cZ a_t a_ends a_there a_one a_two a_what a_piece a_kinds a_group a_many a_pieceOf a_numberOf a_ups a_jointUp a_partner a_beyonds a_gone thrown made tree items pieces joints nodes pieceOf numberOf ups jointUp gone) sz) t) (va_A (w_Model_begin cI cJ cZ a_t a_ends a_there a_one a_two a_what a_piece a_kinds a_group a_many a_pieceOf a_numberOf a_ups a_jointUp a_partner a_beyonds a_gone thrown made tree items pieces joints nodes pieceOf numberOf ups jointUp gone) sz)) 0 0 (va_A (w_Model_begin cI cJ cZ a_t a_ends a_there a_one a_two a_what a_piece a_kinds a_group a_many a_pieceOf a_numberOf a_ups a_jointUp a_partner a_beyonds a_gone thrown made tree items pieces joints nodes pieceOf numberOf ups jointUp gone) sz) :=
  sk_intro (by decide) (Nat.le_of_ble_eq_true rfl) (fun p e s m below meth c K hr _ h => bd_Model_begin K (Nat.le_refl _) (Nat.le_refl _) (fun _ z => z) (fun ti pc y0 y1 y2 y3 y4 y5 lv hd hp => A_vret K d_Model_begin ti hr (post := (fun (u : Int32 × (Nat → Int32) × (Nat → Int32) × (Nat → Int32) × (Nat → Int32) × (Nat → Int32)) => post  u.1 u.2.1 u.2.2.1 u.2.2.2.1 u.2.2.2.2.1 u.2.2.2.2.2)) (wl := fun (u : Int32 × (Nat → Int32) × (Nat → Int32) × (Nat → Int32) × (Nat → Int32) × (Nat → Int32)) => w_Model_begin cI cJ cZ a_t a_ends a_there a_one a_two a_what a_piece a_kinds a_group a_many a_pieceOf a_numberOf a_ups a_jointUp a_partner a_beyonds a_gone thrown made tree items pieces joints u.1 u.2.1 u.2.2.1 u.2.2.2.1 u.2.2.2.2.1 u.2.2.2.2.2) (y0, y1, y2, y3, y4, y5) hd hp) h)
/-! SkeletonTreeModel.nextOf(I)I -/
def t_Model_nextOf : List (Nat × Instr × Nat) := [(0, .iconst (-1), 1), (1, .istore_n 2, 1), (2, .iconst 0, 1), (3, .istore_n 3, 1), (4, .iload_n 3, 1), (5, .aload_n 0, 1), (6, .getfield 98, 3), (9, .if_icmp .ge 102, 3), (12, .aload_n 0, 1), (13, .getfield 26, 3), (16, .iload_n 3, 1), (17, .iaload, 1), (18, .aload_n 0, 1), (19, .getfield 38, 3), (22, .iload_n 1, 1), (23, .iaload, 1), (24, .if_icmp .ne 48, 3), (27, .aload_n 0, 1), (28, .getfield 23, 3), (31, .iload_n 3, 1), (32, .iaload, 1), (33, .ifCond .ge 39, 3), (36, .aload_n 0, 1), (37, .getfield 23, 3), (40, .iload_n 3, 1), (41, .iaload, 1), (42, .iconst (-1), 1), (43, .aload_n 0, 1), (44, .getfield 47, 3), (47, .iload_n 1, 1), (48, .iaload, 1), (49, .isub, 1), (50, .if_icmp .eq 22, 3), (53, .aload_n 0, 1), (54, .getfield 53, 3), (57, .iload_n 3, 1), (58, .iaload, 1), (59, .aload_n 0, 1), (60, .getfield 56, 3), (63, .iload_n 1, 1), (64, .iaload, 1), (65, .if_icmp .le 7, 3), (68, .iconst 1, 1), (69, .goto 4, 3), (72, .iconst 0, 1), (73, .istore 4, 2), (75, .iload 4, 2), (77, .ifCond .eq 26, 3), (80, .iload_n 2, 1), (81, .ifCond .lt 18, 3), (84, .aload_n 0, 1), (85, .getfield 53, 3), (88, .iload_n 3, 1), (89, .iaload, 1), (90, .aload_n 0, 1), (91, .getfield 53, 3), (94, .iload_n 2, 1), (95, .iaload, 1), (96, .if_icmp .ge 7, 3), (99, .iload_n 3, 1), (100, .goto 4, 3), (103, .iload_n 2, 1), (104, .istore_n 2, 1), (105, .iinc 3 1, 3), (108, .goto (-104), 3), (111, .iload_n 2, 1), (112, .ireturn, 1)]
set_option maxRecDepth 100000 in
theorem d_Model_nextOf : sk_T c_Model_nextOf t_Model_nextOf := by unfold sk_T t_Model_nextOf; decide +kernel
def w_Model_nextOf (cI cJ cZ : ClassId) (a_t a_ends a_there a_one a_two a_what a_piece a_kinds a_group a_many a_pieceOf a_numberOf a_ups a_jointUp a_partner a_beyonds a_gone : Nat) (thrown : Int32) (made : Int32) (tree : Int32) (items : Int32) (what : Nat → Int32) (piece : Nat → Int32) (pieces : Int32) (joints : Int32) (nodes : Int32) (pieceOf : Nat → Int32) (jointUp : Nat → Int32) (beyonds : Nat → Int32) (gone : Nat → Int32) : va_W := [(a_t, .inr (5, [.int thrown, .int made, .ref a_ends, .ref a_there, .int tree, .int items, .ref a_one, .ref a_two, .ref a_what, .ref a_piece, .int pieces, .int joints, .ref a_kinds, .ref a_group, .ref a_many, .int nodes, .ref a_pieceOf, .ref a_numberOf, .ref a_ups, .ref a_jointUp, .ref a_partner, .ref a_beyonds, .ref a_gone])), (a_what, .inl (cI, 320, .inl what)), (a_piece, .inl (cI, 320, .inl piece)), (a_pieceOf, .inl (cI, 110, .inl pieceOf)), (a_jointUp, .inl (cI, 110, .inl jointUp)), (a_beyonds, .inl (cI, 320, .inl beyonds)), (a_gone, .inl (cI, 110, .inl gone))]
def wp_Model_nextOf  (items : Int32) (what : Nat → Int32) (piece : Nat → Int32) (pieceOf : Nat → Int32) (jointUp : Nat → Int32) (beyonds : Nat → Int32) (gone : Nat → Int32) (x1 : Int32) (post : Int32 → Prop) : Prop :=
  ∃ n, sL2 (fun (K_3 : Int32 → Int32 → Prop) (i2_1 : Int32) (i3_2 : Int32) => (items ≤ i3_2 → post i2_1 ) ∧ (¬ items ≤ i3_2 → vp_in i3_2 320 ∧ vp_in x1 110 ∧ jn1 (fun (z_6 : Int32) => (z_6 = 0 → K_3 i2_1 (i3_2 + 1)) ∧ (¬ z_6 = 0 → (i2_1 < 0 → K_3 i3_2 (i3_2 + 1)) ∧ (¬ i2_1 < 0 → vp_in i3_2 320 ∧ vp_in i2_1 320 ∧ ((beyonds (ix i2_1)) ≤ (beyonds (ix i3_2)) → K_3 i2_1 (i3_2 + 1)) ∧ (¬ (beyonds (ix i2_1)) ≤ (beyonds (ix i3_2)) → K_3 i3_2 (i3_2 + 1))))) (fun (J_7 : Int32 → Prop) => (¬ (piece (ix i3_2)) = (pieceOf (ix x1)) → J_7 0) ∧ ((piece (ix i3_2)) = (pieceOf (ix x1)) → vp_in i3_2 320 ∧ (0 ≤ (what (ix i3_2)) → J_7 0) ∧ (¬ 0 ≤ (what (ix i3_2)) → vp_in i3_2 320 ∧ vp_in x1 110 ∧ ((what (ix i3_2)) = ((-1) - (jointUp (ix x1))) → J_7 0) ∧ (¬ (what (ix i3_2)) = ((-1) - (jointUp (ix x1))) → vp_in i3_2 320 ∧ vp_in x1 110 ∧ ((beyonds (ix i3_2)) ≤ (gone (ix x1)) → J_7 0) ∧ (¬ (beyonds (ix i3_2)) ≤ (gone (ix x1)) → J_7 1))))))) n (-1) 0
set_option maxHeartbeats 4000000 in
set_option maxRecDepth 100000 in
theorem bd_Model_nextOf {p : Program} {l : Launch} {e : Env} {R : Room} {s : State} {m : MethodId} {args : Array Value} {below : List Frame} {meth : Method} {c : Code} {D : va_G} {A B : Nat → Prop} {Q : State → Prop} {cI cJ cZ : ClassId} {a_t a_ends a_there a_one a_two a_what a_piece a_kinds a_group a_many a_pieceOf a_numberOf a_ups a_jointUp a_partner a_beyonds a_gone : Nat} {thrown : Int32} {made : Int32} {tree : Int32} {items : Int32} {what : Nat → Int32} {piece : Nat → Int32} {pieces : Int32} {joints : Int32} {nodes : Int32} {pieceOf : Nat → Int32} {jointUp : Nat → Int32} {beyonds : Nat → Int32} {gone : Nat → Int32} {x1 : Int32} (K : sk_C p s m args meth c c_Model_nextOf 5 "SkeletonTreeModel" D (tyl cI cJ cZ)) (hR1 : 0 ≤ R.frames) (hR2 : 0 ≤ R.locals) {post : Int32 → Prop} (hend : ∀ (ti pc : Nat) (r : Int32)  (lv : List (Nat × Value)), t_Model_nextOf[ti]? = some (pc, .ireturn, 1) → post r  → AW p l e R s m args below meth c D A B 5 Q 0 0 (w_Model_nextOf cI cJ cZ a_t a_ends a_there a_one a_two a_what a_piece a_kinds a_group a_many a_pieceOf a_numberOf a_ups a_jointUp a_partner a_beyonds a_gone thrown made tree items what piece pieces joints nodes pieceOf jointUp beyonds gone) lv pc [.int r]) (h : wp_Model_nextOf items what piece pieceOf jointUp beyonds gone x1 post) : AW p l e R s m args below meth c D A B 5 Q 0 0 (w_Model_nextOf cI cJ cZ a_t a_ends a_there a_one a_two a_what a_piece a_kinds a_group a_many a_pieceOf a_numberOf a_ups a_jointUp a_partner a_beyonds a_gone thrown made tree items what piece pieces joints nodes pieceOf jointUp beyonds gone) [(0, .ref a_t), (1, .int x1)] 0 [] := by
  unfold wp_Model_nextOf at h
  refine A_iconst K d_Model_nextOf 0 (pc' := 1) (v := (-1)) rfl rfl (by decide) ?_
  refine A_istore_n K d_Model_nextOf 1 (pc' := 2) (lv' := [(2, .int (-1)), (0, .ref a_t), (1, .int x1)]) rfl rfl rfl (by decide) rfl ?_
  refine A_iconst K d_Model_nextOf 2 (pc' := 3) (v := 0) rfl rfl (by decide) ?_
  refine A_istore_n K d_Model_nextOf 3 (pc' := 4) (lv' := [(3, .int 0), (2, .int (-1)), (0, .ref a_t), (1, .int x1)]) rfl rfl rfl (by decide) rfl ?_
  refine A_lv [2, 3, 1, 0] rfl ?_
  obtain ⟨n_5, h⟩ := h
  refine sL2_ind (fun (i2_1 : Int32) (i3_2 : Int32) => AW p l e R s m args below meth c D A B 5 Q 0 0 (w_Model_nextOf cI cJ cZ a_t a_ends a_there a_one a_two a_what a_piece a_kinds a_group a_many a_pieceOf a_numberOf a_ups a_jointUp a_partner a_beyonds a_gone thrown made tree items what piece pieces joints nodes pieceOf jointUp beyonds gone) [(0, .ref a_t), (1, .int x1), (2, .int i2_1), (3, .int i3_2)] 4 []) ?_ n_5 _ _ h
  intro K_3 ih_4 i2_1 i3_2 h
  refine A_iload_n K d_Model_nextOf 4 3 (pc' := 5) rfl rfl rfl rfl ?_
  refine A_aload_n K d_Model_nextOf 5 0 (pc' := 6) rfl rfl rfl rfl ?_
  refine A_get K d_Model_nextOf 6 0 fl_Model_98 (pc' := 9) rfl rfl rfl rfl ?_
  refine A_icmp_ge K d_Model_nextOf 7 111 (pc' := 12) rfl rfl rfl (fun q => ?_) (fun q => ?_)
  · replace h := h.1 q
    refine A_iload_n K d_Model_nextOf 65 2 (pc' := 112) rfl rfl rfl rfl ?_
    exact hend 66 _ _ _ rfl h
  · replace h := h.2 q
    refine A_aload_n K d_Model_nextOf 8 0 (pc' := 13) rfl rfl rfl rfl ?_
    refine A_get K d_Model_nextOf 9 0 fl_Model_26 (pc' := 16) rfl rfl rfl rfl ?_
    refine A_iload_n K d_Model_nextOf 10 3 (pc' := 17) rfl rfl rfl rfl ?_
    refine A_iald K d_Model_nextOf 11 2 0 (pc' := 18) rfl rfl rfl rfl h.1 ?_
    replace h := h.2
    refine A_aload_n K d_Model_nextOf 12 0 (pc' := 19) rfl rfl rfl rfl ?_
    refine A_get K d_Model_nextOf 13 0 fl_Model_38 (pc' := 22) rfl rfl rfl rfl ?_
    refine A_iload_n K d_Model_nextOf 14 1 (pc' := 23) rfl rfl rfl rfl ?_
    refine A_iald K d_Model_nextOf 15 3 0 (pc' := 24) rfl rfl rfl rfl h.1 ?_
    replace h := h.2
    refine jn1_use (fun (z_6 : Int32) => AW p l e R s m args below meth c D A B 5 Q 0 0 (w_Model_nextOf cI cJ cZ a_t a_ends a_there a_one a_two a_what a_piece a_kinds a_group a_many a_pieceOf a_numberOf a_ups a_jointUp a_partner a_beyonds a_gone thrown made tree items what piece pieces joints nodes pieceOf jointUp beyonds gone) [(0, .ref a_t), (1, .int x1), (2, .int i2_1), (3, .int i3_2)] 73 [.int z_6]) h ?_ ?_
    · intro z_6 h
      refine A_istore K d_Model_nextOf 45 (pc' := 75) (lv' := [(4, .int z_6), (0, .ref a_t), (1, .int x1), (2, .int i2_1), (3, .int i3_2)]) rfl rfl (by decide) rfl ?_
      refine A_iload K d_Model_nextOf 46 0 (pc' := 77) rfl rfl rfl ?_
      refine A_if_eq K d_Model_nextOf 47 103 (pc' := 80) rfl rfl rfl (fun q => ?_) (fun q => ?_)
      · replace h := h.1 q
        refine A_iload_n K d_Model_nextOf 61 3 (pc' := 104) rfl rfl rfl rfl ?_
        refine A_istore_n K d_Model_nextOf 62 (pc' := 105) (lv' := [(2, .int i2_1), (4, .int z_6), (0, .ref a_t), (1, .int x1), (3, .int i3_2)]) rfl rfl rfl (by decide) rfl ?_
        refine A_iinc K d_Model_nextOf 63 4 (pc' := 108) (v := i3_2 + 1) (lv' := [(3, .int (i3_2 + 1)), (2, .int i2_1), (4, .int z_6), (0, .ref a_t), (1, .int x1)]) rfl rfl rfl rfl (by decide) rfl ?_
        refine A_goto K d_Model_nextOf 64 (pc' := 4) rfl rfl ?_
        refine A_lv [3, 4, 1, 0] rfl ?_
        exact ih_4 _ _ h
      · replace h := h.2 q
        refine A_iload_n K d_Model_nextOf 48 3 (pc' := 81) rfl rfl rfl rfl ?_
        refine A_if_lt K d_Model_nextOf 49 99 (pc' := 84) rfl rfl rfl (fun q => ?_) (fun q => ?_)
        · replace h := h.1 q
          refine A_iload_n K d_Model_nextOf 59 4 (pc' := 100) rfl rfl rfl rfl ?_
          refine A_goto K d_Model_nextOf 60 (pc' := 104) rfl rfl ?_
          refine A_istore_n K d_Model_nextOf 62 (pc' := 105) (lv' := [(2, .int i3_2), (4, .int z_6), (0, .ref a_t), (1, .int x1), (3, .int i3_2)]) rfl rfl rfl (by decide) rfl ?_
          refine A_iinc K d_Model_nextOf 63 4 (pc' := 108) (v := i3_2 + 1) (lv' := [(3, .int (i3_2 + 1)), (2, .int i3_2), (4, .int z_6), (0, .ref a_t), (1, .int x1)]) rfl rfl rfl rfl (by decide) rfl ?_
          refine A_goto K d_Model_nextOf 64 (pc' := 4) rfl rfl ?_
          refine A_lv [3, 4, 1, 0] rfl ?_
          exact ih_4 _ _ h
        · replace h := h.2 q
          refine A_aload_n K d_Model_nextOf 50 1 (pc' := 85) rfl rfl rfl rfl ?_
          refine A_get K d_Model_nextOf 51 0 fl_Model_53 (pc' := 88) rfl rfl rfl rfl ?_
          refine A_iload_n K d_Model_nextOf 52 4 (pc' := 89) rfl rfl rfl rfl ?_
          refine A_iald K d_Model_nextOf 53 5 0 (pc' := 90) rfl rfl rfl rfl h.1 ?_
          replace h := h.2
          refine A_aload_n K d_Model_nextOf 54 1 (pc' := 91) rfl rfl rfl rfl ?_
          refine A_get K d_Model_nextOf 55 0 fl_Model_53 (pc' := 94) rfl rfl rfl rfl ?_
          refine A_iload_n K d_Model_nextOf 56 3 (pc' := 95) rfl rfl rfl rfl ?_
          refine A_iald K d_Model_nextOf 57 5 0 (pc' := 96) rfl rfl rfl rfl h.1 ?_
          replace h := h.2
          refine A_icmp_ge K d_Model_nextOf 58 103 (pc' := 99) rfl rfl rfl (fun q => ?_) (fun q => ?_)
          · replace h := h.1 q
            refine A_iload_n K d_Model_nextOf 61 3 (pc' := 104) rfl rfl rfl rfl ?_
            refine A_istore_n K d_Model_nextOf 62 (pc' := 105) (lv' := [(2, .int i2_1), (4, .int z_6), (0, .ref a_t), (1, .int x1), (3, .int i3_2)]) rfl rfl rfl (by decide) rfl ?_
            refine A_iinc K d_Model_nextOf 63 4 (pc' := 108) (v := i3_2 + 1) (lv' := [(3, .int (i3_2 + 1)), (2, .int i2_1), (4, .int z_6), (0, .ref a_t), (1, .int x1)]) rfl rfl rfl rfl (by decide) rfl ?_
            refine A_goto K d_Model_nextOf 64 (pc' := 4) rfl rfl ?_
            refine A_lv [3, 4, 1, 0] rfl ?_
            exact ih_4 _ _ h
          · replace h := h.2 q
            refine A_iload_n K d_Model_nextOf 59 4 (pc' := 100) rfl rfl rfl rfl ?_
            refine A_goto K d_Model_nextOf 60 (pc' := 104) rfl rfl ?_
            refine A_istore_n K d_Model_nextOf 62 (pc' := 105) (lv' := [(2, .int i3_2), (4, .int z_6), (0, .ref a_t), (1, .int x1), (3, .int i3_2)]) rfl rfl rfl (by decide) rfl ?_
            refine A_iinc K d_Model_nextOf 63 4 (pc' := 108) (v := i3_2 + 1) (lv' := [(3, .int (i3_2 + 1)), (2, .int i3_2), (4, .int z_6), (0, .ref a_t), (1, .int x1)]) rfl rfl rfl rfl (by decide) rfl ?_
            refine A_goto K d_Model_nextOf 64 (pc' := 4) rfl rfl ?_
            refine A_lv [3, 4, 1, 0] rfl ?_
            exact ih_4 _ _ h
    · intro J_7 hJ_8 h
      refine A_icmp_ne K d_Model_nextOf 16 72 (pc' := 27) rfl rfl rfl (fun q => ?_) (fun q => ?_)
      · replace h := h.1 q
        refine A_iconst K d_Model_nextOf 44 (pc' := 73) (v := 0) rfl rfl (by decide) ?_
        refine A_lv [0, 1, 2, 3] rfl ?_
        exact hJ_8 _ h
      · replace h := h.2 q
        refine A_aload_n K d_Model_nextOf 17 0 (pc' := 28) rfl rfl rfl rfl ?_
        refine A_get K d_Model_nextOf 18 0 fl_Model_23 (pc' := 31) rfl rfl rfl rfl ?_
        refine A_iload_n K d_Model_nextOf 19 3 (pc' := 32) rfl rfl rfl rfl ?_
        refine A_iald K d_Model_nextOf 20 1 0 (pc' := 33) rfl rfl rfl rfl h.1 ?_
        replace h := h.2
        refine A_if_ge K d_Model_nextOf 21 72 (pc' := 36) rfl rfl rfl (fun q => ?_) (fun q => ?_)
        · replace h := h.1 q
          refine A_iconst K d_Model_nextOf 44 (pc' := 73) (v := 0) rfl rfl (by decide) ?_
          refine A_lv [0, 1, 2, 3] rfl ?_
          exact hJ_8 _ h
        · replace h := h.2 q
          refine A_aload_n K d_Model_nextOf 22 0 (pc' := 37) rfl rfl rfl rfl ?_
          refine A_get K d_Model_nextOf 23 0 fl_Model_23 (pc' := 40) rfl rfl rfl rfl ?_
          refine A_iload_n K d_Model_nextOf 24 3 (pc' := 41) rfl rfl rfl rfl ?_
          refine A_iald K d_Model_nextOf 25 1 0 (pc' := 42) rfl rfl rfl rfl h.1 ?_
          replace h := h.2
          refine A_iconst K d_Model_nextOf 26 (pc' := 43) (v := (-1)) rfl rfl (by decide) ?_
          refine A_aload_n K d_Model_nextOf 27 0 (pc' := 44) rfl rfl rfl rfl ?_
          refine A_get K d_Model_nextOf 28 0 fl_Model_47 (pc' := 47) rfl rfl rfl rfl ?_
          refine A_iload_n K d_Model_nextOf 29 1 (pc' := 48) rfl rfl rfl rfl ?_
          refine A_iald K d_Model_nextOf 30 4 0 (pc' := 49) rfl rfl rfl rfl h.1 ?_
          replace h := h.2
          refine A_isub K d_Model_nextOf 31 (pc' := 50) rfl rfl ?_
          refine A_icmp_eq K d_Model_nextOf 32 72 (pc' := 53) rfl rfl rfl (fun q => ?_) (fun q => ?_)
          · replace h := h.1 q
            refine A_iconst K d_Model_nextOf 44 (pc' := 73) (v := 0) rfl rfl (by decide) ?_
            refine A_lv [0, 1, 2, 3] rfl ?_
            exact hJ_8 _ h
          · replace h := h.2 q
            refine A_aload_n K d_Model_nextOf 33 0 (pc' := 54) rfl rfl rfl rfl ?_
            refine A_get K d_Model_nextOf 34 0 fl_Model_53 (pc' := 57) rfl rfl rfl rfl ?_
            refine A_iload_n K d_Model_nextOf 35 3 (pc' := 58) rfl rfl rfl rfl ?_
            refine A_iald K d_Model_nextOf 36 5 0 (pc' := 59) rfl rfl rfl rfl h.1 ?_
            replace h := h.2
            refine A_aload_n K d_Model_nextOf 37 0 (pc' := 60) rfl rfl rfl rfl ?_
            refine A_get K d_Model_nextOf 38 0 fl_Model_56 (pc' := 63) rfl rfl rfl rfl ?_
            refine A_iload_n K d_Model_nextOf 39 1 (pc' := 64) rfl rfl rfl rfl ?_
            refine A_iald K d_Model_nextOf 40 6 0 (pc' := 65) rfl rfl rfl rfl h.1 ?_
            replace h := h.2
            refine A_icmp_le K d_Model_nextOf 41 72 (pc' := 68) rfl rfl rfl (fun q => ?_) (fun q => ?_)
            · replace h := h.1 q
              refine A_iconst K d_Model_nextOf 44 (pc' := 73) (v := 0) rfl rfl (by decide) ?_
              refine A_lv [0, 1, 2, 3] rfl ?_
              exact hJ_8 _ h
            · replace h := h.2 q
              refine A_iconst K d_Model_nextOf 42 (pc' := 69) (v := 1) rfl rfl (by decide) ?_
              refine A_goto K d_Model_nextOf 43 (pc' := 73) rfl rfl ?_
              refine A_lv [0, 1, 2, 3] rfl ?_
              exact hJ_8 _ h
theorem met_Model_nextOf (l : Launch) (D : va_G) (cI cJ cZ : ClassId) (a_t a_ends a_there a_one a_two a_what a_piece a_kinds a_group a_many a_pieceOf a_numberOf a_ups a_jointUp a_partner a_beyonds a_gone : Nat) (thrown : Int32) (made : Int32) (tree : Int32) (items : Int32) (what : Nat → Int32) (piece : Nat → Int32) (pieces : Int32) (joints : Int32) (nodes : Int32) (pieceOf : Nat → Int32) (jointUp : Nat → Int32) (beyonds : Nat → Int32) (gone : Nat → Int32) (x1 : Int32) (post : Int32 → Prop) (sz : Nat) : Met l y_Model_nextOf (Cond.code y_Model_nextOf c_Model_nextOf 5 (Option.some Jvm.ClassFile.FieldType.int) :: GW) { frames := 0, cells := 0, slots := 0, locals := 0 } (va_Pc [.ref a_t, .int x1] (fun U => sk_P D (tyl cI cJ cZ) (w_Model_nextOf cI cJ cZ a_t a_ends a_there a_one a_two a_what a_piece a_kinds a_group a_many a_pieceOf a_numberOf a_ups a_jointUp a_partner a_beyonds a_gone thrown made tree items what piece pieces joints nodes pieceOf jointUp beyonds gone) sz U ∧ wp_Model_nextOf items what piece pieceOf jointUp beyonds gone x1 post)) (va_Qi (fun (r : Int32) (_ : Unit) => post r) (fun _ t => sk_B D (tyl cI cJ cZ) (w_Model_nextOf cI cJ cZ a_t a_ends a_there a_one a_two a_what a_piece a_kinds a_group a_many a_pieceOf a_numberOf a_ups a_jointUp a_partner a_beyonds a_gone thrown made tree items what piece pieces joints nodes pieceOf jointUp beyonds gone) (fun _ => True) t) (fun q => sz ≤ q)) 0 0 (fun q => sz ≤ q) :=
  sk_introR (by decide) (Nat.le_of_ble_eq_true rfl) (fun p e s m below meth c K hr _ h => bd_Model_nextOf K (Nat.le_refl _) (Nat.le_refl _) (fun ti pc r  lv hd hp => A_iret K d_Model_nextOf ti hr (post := (fun (r : Int32) (_ : Unit) => post r)) (wl := fun (_ : Unit) => w_Model_nextOf cI cJ cZ a_t a_ends a_there a_one a_two a_what a_piece a_kinds a_group a_many a_pieceOf a_numberOf a_ups a_jointUp a_partner a_beyonds a_gone thrown made tree items what piece pieces joints nodes pieceOf jointUp beyonds gone) () hd hp) h)
/-! SkeletonTreeModel.number(I)V -/
def t_Model_number : List (Nat × Instr × Nat) := [(0, .aload_n 0, 1), (1, .iload_n 1, 1), (2, .iconst (-1), 1), (3, .bipush 100, 2), (5, .invokevirtual 149, 3), (8, .iconst 0, 1), (9, .istore_n 2, 1), (10, .iload_n 2, 1), (11, .ifCond .lt 63, 3), (14, .aload_n 0, 1), (15, .iload_n 2, 1), (16, .invokevirtual 153, 3), (19, .istore_n 3, 1), (20, .iload_n 3, 1), (21, .ifCond .lt 43, 3), (24, .aload_n 0, 1), (25, .getfield 56, 3), (28, .iload_n 2, 1), (29, .aload_n 0, 1), (30, .getfield 53, 3), (33, .iload_n 3, 1), (34, .iaload, 1), (35, .iastore, 1), (36, .aload_n 0, 1), (37, .aload_n 0, 1), (38, .iload_n 3, 1), (39, .invokevirtual 143, 3), (42, .iload_n 2, 1), (43, .iconst (-1), 1), (44, .aload_n 0, 1), (45, .getfield 23, 3), (48, .iload_n 3, 1), (49, .iaload, 1), (50, .isub, 1), (51, .invokevirtual 149, 3), (54, .aload_n 0, 1), (55, .getfield 146, 3), (58, .iconst 1, 1), (59, .isub, 1), (60, .istore_n 2, 1), (61, .goto 10, 3), (64, .aload_n 0, 1), (65, .getfield 44, 3), (68, .iload_n 2, 1), (69, .iaload, 1), (70, .istore_n 2, 1), (71, .goto (-61), 3), (74, .return_, 1)]
set_option maxRecDepth 100000 in
theorem d_Model_number : sk_T c_Model_number t_Model_number := by unfold sk_T t_Model_number; decide +kernel
def w_Model_number (cI cJ cZ : ClassId) (a_t a_ends a_there a_one a_two a_what a_piece a_kinds a_group a_many a_pieceOf a_numberOf a_ups a_jointUp a_partner a_beyonds a_gone : Nat) (thrown : Int32) (made : Int32) (tree : Int32) (items : Int32) (what : Nat → Int32) (piece : Nat → Int32) (pieces : Int32) (joints : Int32) (nodes : Int32) (pieceOf : Nat → Int32) (numberOf : Nat → Int32) (ups : Nat → Int32) (jointUp : Nat → Int32) (partner : Nat → Int32) (beyonds : Nat → Int32) (gone : Nat → Int32) : va_W := [(a_t, .inr (5, [.int thrown, .int made, .ref a_ends, .ref a_there, .int tree, .int items, .ref a_one, .ref a_two, .ref a_what, .ref a_piece, .int pieces, .int joints, .ref a_kinds, .ref a_group, .ref a_many, .int nodes, .ref a_pieceOf, .ref a_numberOf, .ref a_ups, .ref a_jointUp, .ref a_partner, .ref a_beyonds, .ref a_gone])), (a_what, .inl (cI, 320, .inl what)), (a_piece, .inl (cI, 320, .inl piece)), (a_pieceOf, .inl (cI, 110, .inl pieceOf)), (a_numberOf, .inl (cI, 110, .inl numberOf)), (a_ups, .inl (cI, 110, .inl ups)), (a_jointUp, .inl (cI, 110, .inl jointUp)), (a_partner, .inl (cI, 320, .inl partner)), (a_beyonds, .inl (cI, 320, .inl beyonds)), (a_gone, .inl (cI, 110, .inl gone))]
def wp_Model_number  (items : Int32) (what : Nat → Int32) (piece : Nat → Int32) (nodes : Int32) (pieceOf : Nat → Int32) (numberOf : Nat → Int32) (ups : Nat → Int32) (jointUp : Nat → Int32) (partner : Nat → Int32) (beyonds : Nat → Int32) (gone : Nat → Int32) (x1 : Int32) (post : Int32 → (Nat → Int32) → (Nat → Int32) → (Nat → Int32) → (Nat → Int32) → (Nat → Int32) → Prop) : Prop :=
  wp_Model_begin nodes pieceOf numberOf ups jointUp gone x1 (-1) 100 (fun nodes_1 pieceOf_2 numberOf_3 ups_4 jointUp_5 gone_6 => ∃ n, sL7 (fun (K_14 : Int32 → Int32 → (Nat → Int32) → (Nat → Int32) → (Nat → Int32) → (Nat → Int32) → (Nat → Int32) → Prop) (i2_7 : Int32) (nodes_8 : Int32) (pieceOf_9 : Nat → Int32) (numberOf_10 : Nat → Int32) (ups_11 : Nat → Int32) (jointUp_12 : Nat → Int32) (gone_13 : Nat → Int32) => (i2_7 < 0 → post nodes_8 pieceOf_9 numberOf_10 ups_11 jointUp_12 gone_13) ∧ (¬ i2_7 < 0 → wp_Model_nextOf items what piece pieceOf_9 jointUp_12 beyonds gone_13 i2_7 (fun r_17 => (r_17 < 0 → vp_in i2_7 110 ∧ K_14 (ups_11 (ix i2_7)) nodes_8 pieceOf_9 numberOf_10 ups_11 jointUp_12 gone_13) ∧ (¬ r_17 < 0 → vp_in r_17 320 ∧ vp_in i2_7 110 ∧ ∀ gone_18 : Nat → Int32, gone_18 = upd gone_13 (ix i2_7) (beyonds (ix r_17)) → wp_Model_beyond piece partner r_17 (fun r_20 => vp_in r_17 320 ∧ wp_Model_begin nodes_8 pieceOf_9 numberOf_10 ups_11 jointUp_12 gone_18 r_20 i2_7 ((-1) - (what (ix r_17))) (fun nodes_21 pieceOf_22 numberOf_23 ups_24 jointUp_25 gone_26 => K_14 (nodes_21 - 1) nodes_21 pieceOf_22 numberOf_23 ups_24 jointUp_25 gone_26)))))) n 0 nodes_1 pieceOf_2 numberOf_3 ups_4 jointUp_5 gone_6)
set_option maxHeartbeats 4000000 in
set_option maxRecDepth 100000 in
theorem bd_Model_number {p : Program} {l : Launch} {e : Env} {R : Room} {s : State} {m : MethodId} {args : Array Value} {below : List Frame} {meth : Method} {c : Code} {D : va_G} {A B : Nat → Prop} {Q : State → Prop} {cI cJ cZ : ClassId} {a_t a_ends a_there a_one a_two a_what a_piece a_kinds a_group a_many a_pieceOf a_numberOf a_ups a_jointUp a_partner a_beyonds a_gone : Nat} {thrown : Int32} {made : Int32} {tree : Int32} {items : Int32} {what : Nat → Int32} {piece : Nat → Int32} {pieces : Int32} {joints : Int32} {nodes : Int32} {pieceOf : Nat → Int32} {numberOf : Nat → Int32} {ups : Nat → Int32} {jointUp : Nat → Int32} {partner : Nat → Int32} {beyonds : Nat → Int32} {gone : Nat → Int32} {x1 : Int32} (K : sk_C p s m args meth c c_Model_number 4 "SkeletonTreeModel" D (tyl cI cJ cZ)) (hR1 : 1 ≤ R.frames) (hR2 : 24 ≤ R.locals) (hBA : ∀ q : Nat, B q → A q) {post : Int32 → (Nat → Int32) → (Nat → Int32) → (Nat → Int32) → (Nat → Int32) → (Nat → Int32) → Prop} (hend : ∀ (ti pc : Nat)  (y0 : Int32) (y1 : Nat → Int32) (y2 : Nat → Int32) (y3 : Nat → Int32) (y4 : Nat → Int32) (y5 : Nat → Int32) (lv : List (Nat × Value)), t_Model_number[ti]? = some (pc, .return_, 1) → post  y0 y1 y2 y3 y4 y5 → AW p l e R s m args below meth c D A B 4 Q 0 0 (w_Model_number cI cJ cZ a_t a_ends a_there a_one a_two a_what a_piece a_kinds a_group a_many a_pieceOf a_numberOf a_ups a_jointUp a_partner a_beyonds a_gone thrown made tree items what piece pieces joints y0 y1 y2 y3 y4 partner beyonds y5) lv pc []) (h : wp_Model_number items what piece nodes pieceOf numberOf ups jointUp partner beyonds gone x1 post) : AW p l e R s m args below meth c D A B 4 Q 0 0 (w_Model_number cI cJ cZ a_t a_ends a_there a_one a_two a_what a_piece a_kinds a_group a_many a_pieceOf a_numberOf a_ups a_jointUp a_partner a_beyonds a_gone thrown made tree items what piece pieces joints nodes pieceOf numberOf ups jointUp partner beyonds gone) [(0, .ref a_t), (1, .int x1)] 0 [] := by
  unfold wp_Model_number at h
  refine A_aload_n K d_Model_number 0 0 (pc' := 1) rfl rfl rfl rfl ?_
  refine A_iload_n K d_Model_number 1 1 (pc' := 2) rfl rfl rfl rfl ?_
  refine A_iconst K d_Model_number 2 (pc' := 3) (v := (-1)) rfl rfl (by decide) ?_
  refine A_bipush K d_Model_number 3 (pc' := 5) (v := 100) rfl rfl (by decide) ?_
  refine C_Vv6 K hBA d_Model_number 4 [0, 3, 4, 5, 6, 9] [some 0, none, none, some 1, some 2, some 3, some 4, none, none, some 5] (As := [.int x1, .int (-1), .int 100]) (rest := []) (pc' := 8) (wl := fun nodes_1 pieceOf_2 numberOf_3 ups_4 jointUp_5 gone_6 => w_Model_begin cI cJ cZ a_t a_ends a_there a_one a_two a_what a_piece a_kinds a_group a_many a_pieceOf a_numberOf a_ups a_jointUp a_partner a_beyonds a_gone thrown made tree items pieces joints nodes_1 pieceOf_2 numberOf_3 ups_4 jointUp_5 gone_6) (ws' := fun nodes_1 pieceOf_2 numberOf_3 ups_4 jointUp_5 gone_6 => w_Model_number cI cJ cZ a_t a_ends a_there a_one a_two a_what a_piece a_kinds a_group a_many a_pieceOf a_numberOf a_ups a_jointUp a_partner a_beyonds a_gone thrown made tree items what piece pieces joints nodes_1 pieceOf_2 numberOf_3 ups_4 jointUp_5 partner beyonds gone_6) v_Model_149 ⟨rfl, rfl, Nat.le_trans (Nat.le_of_ble_eq_true rfl) hR1, Nat.le_trans (Nat.le_of_ble_eq_true rfl) hR2⟩ (fun sz => met_Model_begin l D cI cJ cZ a_t a_ends a_there a_one a_two a_what a_piece a_kinds a_group a_many a_pieceOf a_numberOf a_ups a_jointUp a_partner a_beyonds a_gone thrown made tree items pieces joints nodes pieceOf numberOf ups jointUp gone x1 (-1) 100 _ sz) h rfl rfl rfl rfl rfl (fun _ _ _ _ _ _ => rfl) rfl (by decide) (Nat.le_of_ble_eq_true rfl) ⟨Nat.zero_le _, Nat.zero_le _⟩ (q0 := 0) rfl rfl (fun _ _ _ _ _ _ => rfl) (fun nodes_1 pieceOf_2 numberOf_3 ups_4 jointUp_5 gone_6 h => ?_)
  refine A_iconst K d_Model_number 5 (pc' := 9) (v := 0) rfl rfl (by decide) ?_
  refine A_istore_n K d_Model_number 6 (pc' := 10) (lv' := [(2, .int 0), (0, .ref a_t), (1, .int x1)]) rfl rfl rfl (by decide) rfl ?_
  refine A_lv [1, 0] rfl ?_
  obtain ⟨n_16, h⟩ := h
  refine sL7_ind (fun (i2_7 : Int32) (nodes_8 : Int32) (pieceOf_9 : Nat → Int32) (numberOf_10 : Nat → Int32) (ups_11 : Nat → Int32) (jointUp_12 : Nat → Int32) (gone_13 : Nat → Int32) => AW p l e R s m args below meth c D A B 4 Q 0 0 (w_Model_number cI cJ cZ a_t a_ends a_there a_one a_two a_what a_piece a_kinds a_group a_many a_pieceOf a_numberOf a_ups a_jointUp a_partner a_beyonds a_gone thrown made tree items what piece pieces joints nodes_8 pieceOf_9 numberOf_10 ups_11 jointUp_12 partner beyonds gone_13) [(0, .ref a_t), (2, .int i2_7)] 10 []) ?_ n_16 _ _ _ _ _ _ _ h
  intro K_14 ih_15 i2_7 nodes_8 pieceOf_9 numberOf_10 ups_11 jointUp_12 gone_13 h
  refine A_iload_n K d_Model_number 7 1 (pc' := 11) rfl rfl rfl rfl ?_
  refine A_if_lt K d_Model_number 8 74 (pc' := 14) rfl rfl rfl (fun q => ?_) (fun q => ?_)
  · replace h := h.1 q
    exact hend 47 _ _ _ _ _ _ _ _ rfl h
  · replace h := h.2 q
    refine A_aload_n K d_Model_number 9 0 (pc' := 15) rfl rfl rfl rfl ?_
    refine A_iload_n K d_Model_number 10 1 (pc' := 16) rfl rfl rfl rfl ?_
    refine R_callV_i K d_Model_number 11 [0, 1, 2, 3, 6, 8, 9] (As := [.int i2_7]) (rest := []) (pc' := 19) v_Model_153 ⟨rfl, rfl, Nat.le_trans (Nat.le_of_ble_eq_true rfl) hR1, Nat.le_trans (Nat.le_of_ble_eq_true rfl) hR2⟩ (fun sz => met_Model_nextOf l D cI cJ cZ a_t a_ends a_there a_one a_two a_what a_piece a_kinds a_group a_many a_pieceOf a_numberOf a_ups a_jointUp a_partner a_beyonds a_gone thrown made tree items what piece pieces joints nodes_8 pieceOf_9 jointUp_12 beyonds gone_13 i2_7 _ sz) h rfl rfl rfl rfl rfl rfl (Nat.le_of_ble_eq_true rfl) ⟨Nat.zero_le _, Nat.zero_le _⟩ (q0 := 0) rfl rfl (fun r_17 h => ?_)
    refine A_istore_n K d_Model_number 12 (pc' := 20) (lv' := [(3, .int r_17), (0, .ref a_t), (2, .int i2_7)]) rfl rfl rfl (by decide) rfl ?_
    refine A_iload_n K d_Model_number 13 0 (pc' := 21) rfl rfl rfl rfl ?_
    refine A_if_lt K d_Model_number 14 64 (pc' := 24) rfl rfl rfl (fun q => ?_) (fun q => ?_)
    · replace h := h.1 q
      refine A_aload_n K d_Model_number 41 1 (pc' := 65) rfl rfl rfl rfl ?_
      refine A_get K d_Model_number 42 0 fl_Model_44 (pc' := 68) rfl rfl rfl rfl ?_
      refine A_iload_n K d_Model_number 43 2 (pc' := 69) rfl rfl rfl rfl ?_
      refine A_iald K d_Model_number 44 5 0 (pc' := 70) rfl rfl rfl rfl h.1 ?_
      replace h := h.2
      refine A_istore_n K d_Model_number 45 (pc' := 71) (lv' := [(2, .int (ups_11 (ix i2_7))), (3, .int r_17), (0, .ref a_t)]) rfl rfl rfl (by decide) rfl ?_
      refine A_goto K d_Model_number 46 (pc' := 10) rfl rfl ?_
      refine A_lv [2, 0] rfl ?_
      exact ih_15 _ _ _ _ _ _ _ h
    · replace h := h.2 q
      refine A_aload_n K d_Model_number 15 1 (pc' := 25) rfl rfl rfl rfl ?_
      refine A_get K d_Model_number 16 0 fl_Model_56 (pc' := 28) rfl rfl rfl rfl ?_
      refine A_iload_n K d_Model_number 17 2 (pc' := 29) rfl rfl rfl rfl ?_
      refine A_aload_n K d_Model_number 18 1 (pc' := 30) rfl rfl rfl rfl ?_
      refine A_get K d_Model_number 19 0 fl_Model_53 (pc' := 33) rfl rfl rfl rfl ?_
      refine A_iload_n K d_Model_number 20 0 (pc' := 34) rfl rfl rfl rfl ?_
      refine A_iald K d_Model_number 21 8 0 (pc' := 35) rfl rfl rfl rfl h.1 ?_
      replace h := h.2
      refine A_iastN K hBA d_Model_number 22 9 0 (pc' := 36) (ws' := fun gone_18 => w_Model_number cI cJ cZ a_t a_ends a_there a_one a_two a_what a_piece a_kinds a_group a_many a_pieceOf a_numberOf a_ups a_jointUp a_partner a_beyonds a_gone thrown made tree items what piece pieces joints nodes_8 pieceOf_9 numberOf_10 ups_11 jointUp_12 partner beyonds gone_18) rfl rfl rfl rfl h.1 (fun _ => rfl) (fun gone_18 e_19 => ?_)
      replace h := h.2 gone_18 e_19
      refine A_aload_n K d_Model_number 23 1 (pc' := 37) rfl rfl rfl rfl ?_
      refine A_aload_n K d_Model_number 24 1 (pc' := 38) rfl rfl rfl rfl ?_
      refine A_iload_n K d_Model_number 25 0 (pc' := 39) rfl rfl rfl rfl ?_
      refine R_callV_i K d_Model_number 26 [0, 2, 7] (As := [.int r_17]) (rest := [.ref a_t]) (pc' := 42) v_Model_143 ⟨rfl, rfl, Nat.le_trans (Nat.le_of_ble_eq_true rfl) hR1, Nat.le_trans (Nat.le_of_ble_eq_true rfl) hR2⟩ (fun sz => met_Model_beyond l D cI cJ cZ a_t a_ends a_there a_one a_two a_what a_piece a_kinds a_group a_many a_pieceOf a_numberOf a_ups a_jointUp a_partner a_beyonds a_gone thrown made tree items piece pieces joints nodes_8 partner r_17 _ sz) h rfl rfl rfl rfl rfl rfl (Nat.le_of_ble_eq_true rfl) ⟨Nat.zero_le _, Nat.zero_le _⟩ (q0 := 0) rfl rfl (fun r_20 h => ?_)
      refine A_iload_n K d_Model_number 27 2 (pc' := 43) rfl rfl rfl rfl ?_
      refine A_iconst K d_Model_number 28 (pc' := 44) (v := (-1)) rfl rfl (by decide) ?_
      refine A_aload_n K d_Model_number 29 1 (pc' := 45) rfl rfl rfl rfl ?_
      refine A_get K d_Model_number 30 0 fl_Model_23 (pc' := 48) rfl rfl rfl rfl ?_
      refine A_iload_n K d_Model_number 31 0 (pc' := 49) rfl rfl rfl rfl ?_
      refine A_iald K d_Model_number 32 1 0 (pc' := 50) rfl rfl rfl rfl h.1 ?_
      replace h := h.2
      refine A_isub K d_Model_number 33 (pc' := 51) rfl rfl ?_
      refine C_Vv6 K hBA d_Model_number 34 [0, 3, 4, 5, 6, 9] [some 0, none, none, some 1, some 2, some 3, some 4, none, none, some 5] (As := [.int r_20, .int i2_7, .int ((-1) - (what (ix r_17)))]) (rest := []) (pc' := 54) (wl := fun nodes_21 pieceOf_22 numberOf_23 ups_24 jointUp_25 gone_26 => w_Model_begin cI cJ cZ a_t a_ends a_there a_one a_two a_what a_piece a_kinds a_group a_many a_pieceOf a_numberOf a_ups a_jointUp a_partner a_beyonds a_gone thrown made tree items pieces joints nodes_21 pieceOf_22 numberOf_23 ups_24 jointUp_25 gone_26) (ws' := fun nodes_21 pieceOf_22 numberOf_23 ups_24 jointUp_25 gone_26 => w_Model_number cI cJ cZ a_t a_ends a_there a_one a_two a_what a_piece a_kinds a_group a_many a_pieceOf a_numberOf a_ups a_jointUp a_partner a_beyonds a_gone thrown made tree items what piece pieces joints nodes_21 pieceOf_22 numberOf_23 ups_24 jointUp_25 partner beyonds gone_26) v_Model_149 ⟨rfl, rfl, Nat.le_trans (Nat.le_of_ble_eq_true rfl) hR1, Nat.le_trans (Nat.le_of_ble_eq_true rfl) hR2⟩ (fun sz => met_Model_begin l D cI cJ cZ a_t a_ends a_there a_one a_two a_what a_piece a_kinds a_group a_many a_pieceOf a_numberOf a_ups a_jointUp a_partner a_beyonds a_gone thrown made tree items pieces joints nodes_8 pieceOf_9 numberOf_10 ups_11 jointUp_12 gone_18 r_20 i2_7 ((-1) - (what (ix r_17))) _ sz) h rfl rfl rfl rfl rfl (fun _ _ _ _ _ _ => rfl) rfl (by decide) (Nat.le_of_ble_eq_true rfl) ⟨Nat.zero_le _, Nat.zero_le _⟩ (q0 := 0) rfl rfl (fun _ _ _ _ _ _ => rfl) (fun nodes_21 pieceOf_22 numberOf_23 ups_24 jointUp_25 gone_26 h => ?_)
      refine A_aload_n K d_Model_number 35 1 (pc' := 55) rfl rfl rfl rfl ?_
      refine A_get K d_Model_number 36 0 fl_Model_146 (pc' := 58) rfl rfl rfl rfl ?_
      refine A_iconst K d_Model_number 37 (pc' := 59) (v := 1) rfl rfl (by decide) ?_
      refine A_isub K d_Model_number 38 (pc' := 60) rfl rfl ?_
      refine A_istore_n K d_Model_number 39 (pc' := 61) (lv' := [(2, .int (nodes_21 - 1)), (3, .int r_17), (0, .ref a_t)]) rfl rfl rfl (by decide) rfl ?_
      refine A_goto K d_Model_number 40 (pc' := 71) rfl rfl ?_
      refine A_goto K d_Model_number 46 (pc' := 10) rfl rfl ?_
      refine A_lv [2, 0] rfl ?_
      exact ih_15 _ _ _ _ _ _ _ h
theorem met_Model_number (l : Launch) (D : va_G) (cI cJ cZ : ClassId) (a_t a_ends a_there a_one a_two a_what a_piece a_kinds a_group a_many a_pieceOf a_numberOf a_ups a_jointUp a_partner a_beyonds a_gone : Nat) (thrown : Int32) (made : Int32) (tree : Int32) (items : Int32) (what : Nat → Int32) (piece : Nat → Int32) (pieces : Int32) (joints : Int32) (nodes : Int32) (pieceOf : Nat → Int32) (numberOf : Nat → Int32) (ups : Nat → Int32) (jointUp : Nat → Int32) (partner : Nat → Int32) (beyonds : Nat → Int32) (gone : Nat → Int32) (x1 : Int32) (post : Int32 → (Nat → Int32) → (Nat → Int32) → (Nat → Int32) → (Nat → Int32) → (Nat → Int32) → Prop) (sz : Nat) : Met l y_Model_number (Cond.code y_Model_number c_Model_number 4 (Option.none : Option Jvm.ClassFile.FieldType) :: GW) { frames := 1, cells := 0, slots := 0, locals := 24 } (va_Pc [.ref a_t, .int x1] (fun U => sk_P D (tyl cI cJ cZ) (w_Model_number cI cJ cZ a_t a_ends a_there a_one a_two a_what a_piece a_kinds a_group a_many a_pieceOf a_numberOf a_ups a_jointUp a_partner a_beyonds a_gone thrown made tree items what piece pieces joints nodes pieceOf numberOf ups jointUp partner beyonds gone) sz U ∧ wp_Model_number items what piece nodes pieceOf numberOf ups jointUp partner beyonds gone x1 post)) (va_Qv (fun (u : Int32 × (Nat → Int32) × (Nat → Int32) × (Nat → Int32) × (Nat → Int32) × (Nat → Int32)) => post  u.1 u.2.1 u.2.2.1 u.2.2.2.1 u.2.2.2.2.1 u.2.2.2.2.2) (fun u t => sk_B D (tyl cI cJ cZ) (w_Model_number cI cJ cZ a_t a_ends a_there a_one a_two a_what a_piece a_kinds a_group a_many a_pieceOf a_numberOf a_ups a_jointUp a_partner a_beyonds a_gone thrown made tree items what piece pieces joints u.1 u.2.1 u.2.2.1 u.2.2.2.1 u.2.2.2.2.1 partner beyonds u.2.2.2.2.2) (va_A (w_Model_number cI cJ cZ a_t a_ends a_there a_one a_two a_what a_piece a_kinds a_group a_many a_pieceOf a_numberOf a_ups a_jointUp a_partner a_beyonds a_gone thrown made tree items what piece pieces joints nodes pieceOf numberOf ups jointUp partner beyonds gone) sz) t) (va_A (w_Model_number cI cJ cZ a_t a_ends a_there a_one a_two a_what a_piece a_kinds a_group a_many a_pieceOf a_numberOf a_ups a_jointUp a_partner a_beyonds a_gone thrown made tree items what piece pieces joints nodes pieceOf numberOf ups jointUp partner beyonds gone) sz)) 0 0 (va_A (w_Model_number cI cJ cZ a_t a_ends a_there a_one a_two a_what a_piece a_kinds a_group a_many a_pieceOf a_numberOf a_ups a_jointUp a_partner a_beyonds a_gone thrown made tree items what piece pieces joints nodes pieceOf numberOf ups jointUp partner beyonds gone) sz) :=
  sk_intro (by decide) (Nat.le_of_ble_eq_true rfl) (fun p e s m below meth c K hr _ h => bd_Model_number K (Nat.le_refl _) (Nat.le_refl _) (fun _ z => z) (fun ti pc y0 y1 y2 y3 y4 y5 lv hd hp => A_vret K d_Model_number ti hr (post := (fun (u : Int32 × (Nat → Int32) × (Nat → Int32) × (Nat → Int32) × (Nat → Int32) × (Nat → Int32)) => post  u.1 u.2.1 u.2.2.1 u.2.2.2.1 u.2.2.2.2.1 u.2.2.2.2.2)) (wl := fun (u : Int32 × (Nat → Int32) × (Nat → Int32) × (Nat → Int32) × (Nat → Int32) × (Nat → Int32)) => w_Model_number cI cJ cZ a_t a_ends a_there a_one a_two a_what a_piece a_kinds a_group a_many a_pieceOf a_numberOf a_ups a_jointUp a_partner a_beyonds a_gone thrown made tree items what piece pieces joints u.1 u.2.1 u.2.2.1 u.2.2.2.1 u.2.2.2.2.1 partner beyonds u.2.2.2.2.2) (y0, y1, y2, y3, y4, y5) hd hp) h)
/-! SkeletonTreeModel.build()I -/
def t_Model_build : List (Nat × Instr × Nat) := [(0, .aload_n 0, 1), (1, .aload_n 0, 1), (2, .invokevirtual 156, 3), (5, .putfield 74, 3), (8, .aload_n 0, 1), (9, .iconst 0, 1), (10, .putfield 63, 3), (13, .aload_n 0, 1), (14, .getfield 74, 3), (17, .ifCond .ne 5, 3), (20, .iconst (-1), 1), (21, .ireturn, 1), (22, .aload_n 0, 1), (23, .iconst 0, 1), (24, .putfield 98, 3), (27, .aload_n 0, 1), (28, .iconst 0, 1), (29, .putfield 133, 3), (32, .aload_n 0, 1), (33, .iconst 1, 1), (34, .putfield 130, 3), (37, .aload_n 0, 1), (38, .iconst 0, 1), (39, .putfield 146, 3), (42, .iconst 0, 1), (43, .istore_n 1, 1), (44, .iload_n 1, 1), (45, .aload_n 0, 1), (46, .getfield 59, 3), (49, .if_icmp .ge 42, 3), (52, .aload_n 0, 1), (53, .getfield 13, 3), (56, .iload_n 1, 1), (57, .baload, 1), (58, .ifCond .eq 27, 3), (61, .aload_n 0, 1), (62, .aload_n 0, 1), (63, .getfield 7, 3), (66, .iconst 2, 1), (67, .iload_n 1, 1), (68, .imul, 1), (69, .iaload, 1), (70, .aload_n 0, 1), (71, .getfield 7, 3), (74, .iconst 2, 1), (75, .iload_n 1, 1), (76, .imul, 1), (77, .iconst 1, 1), (78, .iadd, 1), (79, .iaload, 1), (80, .iload_n 1, 1), (81, .iconst 0, 1), (82, .invokevirtual 136, 3), (85, .iinc 1 1, 3), (88, .goto (-44), 3), (91, .iconst 0, 1), (92, .istore_n 1, 1), (93, .iload_n 1, 1), (94, .aload_n 0, 1), (95, .getfield 130, 3), (98, .if_icmp .ge 24, 3), (101, .iconst 1, 1), (102, .istore_n 2, 1), (103, .iload_n 2, 1), (104, .ifCond .eq 12, 3), (107, .aload_n 0, 1), (108, .iload_n 1, 1), (109, .invokevirtual 160, 3), (112, .istore_n 2, 1), (113, .goto (-10), 3), (116, .iinc 1 1, 3), (119, .goto (-26), 3), (122, .iconst 0, 1), (123, .istore_n 1, 1), (124, .iload_n 1, 1), (125, .aload_n 0, 1), (126, .getfield 130, 3), (129, .if_icmp .ge 42, 3), (132, .aload_n 0, 1), (133, .getfield 29, 3), (136, .iload_n 1, 1), (137, .aload_n 0, 1), (138, .iload_n 1, 1), (139, .invokevirtual 163, 3), (142, .iconst 2, 1), (143, .if_icmp .ne 7, 3), (146, .iconst 0, 1), (147, .goto 17, 3), (150, .aload_n 0, 1), (151, .iload_n 1, 1), (152, .invokevirtual 163, 3), (155, .iconst 3, 1), (156, .if_icmp .ne 7, 3), (159, .iconst 1, 1), (160, .goto 4, 3), (163, .iconst 2, 1), (164, .iastore, 1), (165, .iinc 1 1, 3), (168, .goto (-44), 3), (171, .aload_n 0, 1), (172, .invokevirtual 166, 3), (175, .aload_n 0, 1), (176, .invokevirtual 169, 3), (179, .aload_n 0, 1), (180, .aload_n 0, 1), (181, .getfield 26, 3), (184, .iconst 0, 1), (185, .iaload, 1), (186, .invokevirtual 172, 3), (189, .aload_n 0, 1), (190, .getfield 146, 3), (193, .ireturn, 1)]
set_option maxRecDepth 100000 in
theorem d_Model_build : sk_T c_Model_build t_Model_build := by unfold sk_T t_Model_build; decide +kernel
def w_Model_build (cI cJ cZ : ClassId) (a_t a_ends a_there a_one a_two a_what a_piece a_kinds a_group a_many a_pieceOf a_numberOf a_ups a_jointUp a_partner a_beyonds a_gone : Nat) (thrown : Int32) (made : Int32) (ends : Nat → Int32) (there : Nat → Int32) (tree : Int32) (items : Int32) (one : Nat → Int32) (two : Nat → Int32) (what : Nat → Int32) (piece : Nat → Int32) (pieces : Int32) (joints : Int32) (kinds : Nat → Int32) (group : Nat → Int32) (many : Nat → Int32) (nodes : Int32) (pieceOf : Nat → Int32) (numberOf : Nat → Int32) (ups : Nat → Int32) (jointUp : Nat → Int32) (partner : Nat → Int32) (beyonds : Nat → Int32) (gone : Nat → Int32) : va_W := [(a_t, .inr (5, [.int thrown, .int made, .ref a_ends, .ref a_there, .int tree, .int items, .ref a_one, .ref a_two, .ref a_what, .ref a_piece, .int pieces, .int joints, .ref a_kinds, .ref a_group, .ref a_many, .int nodes, .ref a_pieceOf, .ref a_numberOf, .ref a_ups, .ref a_jointUp, .ref a_partner, .ref a_beyonds, .ref a_gone])), (a_ends, .inl (cI, 200, .inl ends)), (a_there, .inl (cZ, 100, .inl there)), (a_one, .inl (cI, 320, .inl one)), (a_two, .inl (cI, 320, .inl two)), (a_what, .inl (cI, 320, .inl what)), (a_piece, .inl (cI, 320, .inl piece)), (a_kinds, .inl (cI, 110, .inl kinds)), (a_group, .inl (cI, 40, .inl group)), (a_many, .inl (cI, 40, .inl many)), (a_pieceOf, .inl (cI, 110, .inl pieceOf)), (a_numberOf, .inl (cI, 110, .inl numberOf)), (a_ups, .inl (cI, 110, .inl ups)), (a_jointUp, .inl (cI, 110, .inl jointUp)), (a_partner, .inl (cI, 320, .inl partner)), (a_beyonds, .inl (cI, 320, .inl beyonds)), (a_gone, .inl (cI, 110, .inl gone))]
def wp_Model_build  (thrown : Int32) (made : Int32) (ends : Nat → Int32) (there : Nat → Int32) (tree : Int32) (items : Int32) (one : Nat → Int32) (two : Nat → Int32) (what : Nat → Int32) (piece : Nat → Int32) (pieces : Int32) (joints : Int32) (kinds : Nat → Int32) (group : Nat → Int32) (many : Nat → Int32) (nodes : Int32) (pieceOf : Nat → Int32) (numberOf : Nat → Int32) (ups : Nat → Int32) (jointUp : Nat → Int32) (partner : Nat → Int32) (beyonds : Nat → Int32) (gone : Nat → Int32)  (post : Int32 → Int32 → Int32 → Int32 → (Nat → Int32) → (Nat → Int32) → (Nat → Int32) → (Nat → Int32) → Int32 → Int32 → (Nat → Int32) → (Nat → Int32) → (Nat → Int32) → Int32 → (Nat → Int32) → (Nat → Int32) → (Nat → Int32) → (Nat → Int32) → (Nat → Int32) → (Nat → Int32) → (Nat → Int32) → Prop) : Prop :=
  wp_Model_isFit thrown made ends there group (fun r_3 thrown_1 group_2 => sk_b r_3 ∧ (¬ r_3 = 0 → ∃ n, sL6 (fun (K_10 : Int32 → Int32 → (Nat → Int32) → (Nat → Int32) → (Nat → Int32) → (Nat → Int32) → Prop) (i1_4 : Int32) (items_5 : Int32) (one_6 : Nat → Int32) (two_7 : Nat → Int32) (what_8 : Nat → Int32) (piece_9 : Nat → Int32) => (made ≤ i1_4 → ∃ n, sL10 (fun (K_23 : Int32 → Int32 → (Nat → Int32) → (Nat → Int32) → (Nat → Int32) → (Nat → Int32) → Int32 → Int32 → (Nat → Int32) → (Nat → Int32) → Prop) (i1_13 : Int32) (items_14 : Int32) (one_15 : Nat → Int32) (two_16 : Nat → Int32) (what_17 : Nat → Int32) (piece_18 : Nat → Int32) (pieces_19 : Int32) (joints_20 : Int32) (group_21 : Nat → Int32) (many_22 : Nat → Int32) => (pieces_19 ≤ i1_13 → ∃ n, sL2 (fun (K_28 : Int32 → (Nat → Int32) → Prop) (i1_26 : Int32) (kinds_27 : Nat → Int32) => (pieces_19 ≤ i1_26 → wp_Model_putTogether items_14 what_17 piece_18 joints_20 kinds_27 (fun piece_31 => wp_Model_lookBeyond items_14 what_17 piece_31 joints_20 partner beyonds (fun partner_32 beyonds_33 => vp_in 0 320 ∧ wp_Model_number items_14 what_17 piece_31 0 pieceOf numberOf ups jointUp partner_32 beyonds_33 gone (piece_31 (ix 0)) (fun nodes_34 pieceOf_35 numberOf_36 ups_37 jointUp_38 gone_39 => post nodes_34 0 r_3 items_14 one_15 two_16 what_17 piece_31 pieces_19 joints_20 kinds_27 group_21 many_22 nodes_34 pieceOf_35 numberOf_36 ups_37 jointUp_38 partner_32 beyonds_33 gone_39)))) ∧ (¬ pieces_19 ≤ i1_26 → wp_Model_pointsOf items_14 one_15 two_16 piece_18 i1_26 (fun r_40 => (¬ r_40 = 2 → wp_Model_pointsOf items_14 one_15 two_16 piece_18 i1_26 (fun r_41 => (¬ r_41 = 3 → vp_in i1_26 110 ∧ ∀ kinds_42 : Nat → Int32, kinds_42 = upd kinds_27 (ix i1_26) 2 → K_28 (i1_26 + 1) kinds_42) ∧ (r_41 = 3 → vp_in i1_26 110 ∧ ∀ kinds_44 : Nat → Int32, kinds_44 = upd kinds_27 (ix i1_26) 1 → K_28 (i1_26 + 1) kinds_44))) ∧ (r_40 = 2 → vp_in i1_26 110 ∧ ∀ kinds_46 : Nat → Int32, kinds_46 = upd kinds_27 (ix i1_26) 0 → K_28 (i1_26 + 1) kinds_46)))) n 0 kinds) ∧ (¬ pieces_19 ≤ i1_13 → ∃ n, sL10 (fun (K_58 : Int32 → Int32 → (Nat → Int32) → (Nat → Int32) → (Nat → Int32) → (Nat → Int32) → Int32 → Int32 → (Nat → Int32) → (Nat → Int32) → Prop) (i2_48 : Int32) (items_49 : Int32) (one_50 : Nat → Int32) (two_51 : Nat → Int32) (what_52 : Nat → Int32) (piece_53 : Nat → Int32) (pieces_54 : Int32) (joints_55 : Int32) (group_56 : Nat → Int32) (many_57 : Nat → Int32) => (i2_48 = 0 → K_23 (i1_13 + 1) items_49 one_50 two_51 what_52 piece_53 pieces_54 joints_55 group_56 many_57) ∧ (¬ i2_48 = 0 → wp_Model_split items_49 one_50 two_51 what_52 piece_53 pieces_54 joints_55 group_56 many_57 i1_13 (fun r_70 items_61 one_62 two_63 what_64 piece_65 pieces_66 joints_67 group_68 many_69 => K_58 r_70 items_61 one_62 two_63 what_64 piece_65 pieces_66 joints_67 group_68 many_69))) n 1 items_14 one_15 two_16 what_17 piece_18 pieces_19 joints_20 group_21 many_22)) n 0 items_5 one_6 two_7 what_8 piece_9 1 0 group_2 many) ∧ (¬ made ≤ i1_4 → vp_in i1_4 100 ∧ ((there (ix i1_4)) = 0 → K_10 (i1_4 + 1) items_5 one_6 two_7 what_8 piece_9) ∧ (¬ (there (ix i1_4)) = 0 → vp_in (2 * i1_4) 200 ∧ vp_in ((2 * i1_4) + 1) 200 ∧ wp_Model_add items_5 one_6 two_7 what_8 piece_9 (ends (ix (2 * i1_4))) (ends (ix ((2 * i1_4) + 1))) i1_4 0 (fun items_71 one_72 two_73 what_74 piece_75 => K_10 (i1_4 + 1) items_71 one_72 two_73 what_74 piece_75)))) n 0 0 one two what piece) ∧ (r_3 = 0 → post (-1) 0 r_3 items one two what piece pieces joints kinds group_2 many nodes pieceOf numberOf ups jointUp partner beyonds gone))
set_option maxHeartbeats 4000000 in
set_option maxRecDepth 100000 in
theorem bd_Model_build {p : Program} {l : Launch} {e : Env} {R : Room} {s : State} {m : MethodId} {args : Array Value} {below : List Frame} {meth : Method} {c : Code} {D : va_G} {A B : Nat → Prop} {Q : State → Prop} {cI cJ cZ : ClassId} {a_t a_ends a_there a_one a_two a_what a_piece a_kinds a_group a_many a_pieceOf a_numberOf a_ups a_jointUp a_partner a_beyonds a_gone : Nat} {thrown : Int32} {made : Int32} {ends : Nat → Int32} {there : Nat → Int32} {tree : Int32} {items : Int32} {one : Nat → Int32} {two : Nat → Int32} {what : Nat → Int32} {piece : Nat → Int32} {pieces : Int32} {joints : Int32} {kinds : Nat → Int32} {group : Nat → Int32} {many : Nat → Int32} {nodes : Int32} {pieceOf : Nat → Int32} {numberOf : Nat → Int32} {ups : Nat → Int32} {jointUp : Nat → Int32} {partner : Nat → Int32} {beyonds : Nat → Int32} {gone : Nat → Int32}  (K : sk_C p s m args meth c c_Model_build 3 "SkeletonTreeModel" D (tyl cI cJ cZ)) (hR1 : 6 ≤ R.frames) (hR2 : 144 ≤ R.locals) (hBA : ∀ q : Nat, B q → A q) {post : Int32 → Int32 → Int32 → Int32 → (Nat → Int32) → (Nat → Int32) → (Nat → Int32) → (Nat → Int32) → Int32 → Int32 → (Nat → Int32) → (Nat → Int32) → (Nat → Int32) → Int32 → (Nat → Int32) → (Nat → Int32) → (Nat → Int32) → (Nat → Int32) → (Nat → Int32) → (Nat → Int32) → (Nat → Int32) → Prop} (hend : ∀ (ti pc : Nat) (r : Int32) (y0 : Int32) (y1 : Int32) (y2 : Int32) (y3 : Nat → Int32) (y4 : Nat → Int32) (y5 : Nat → Int32) (y6 : Nat → Int32) (y7 : Int32) (y8 : Int32) (y9 : Nat → Int32) (y10 : Nat → Int32) (y11 : Nat → Int32) (y12 : Int32) (y13 : Nat → Int32) (y14 : Nat → Int32) (y15 : Nat → Int32) (y16 : Nat → Int32) (y17 : Nat → Int32) (y18 : Nat → Int32) (y19 : Nat → Int32) (lv : List (Nat × Value)), t_Model_build[ti]? = some (pc, .ireturn, 1) → post r y0 y1 y2 y3 y4 y5 y6 y7 y8 y9 y10 y11 y12 y13 y14 y15 y16 y17 y18 y19 → AW p l e R s m args below meth c D A B 3 Q 0 0 (w_Model_build cI cJ cZ a_t a_ends a_there a_one a_two a_what a_piece a_kinds a_group a_many a_pieceOf a_numberOf a_ups a_jointUp a_partner a_beyonds a_gone y0 made ends there y1 y2 y3 y4 y5 y6 y7 y8 y9 y10 y11 y12 y13 y14 y15 y16 y17 y18 y19) lv pc [.int r]) (h : wp_Model_build thrown made ends there tree items one two what piece pieces joints kinds group many nodes pieceOf numberOf ups jointUp partner beyonds gone post) : AW p l e R s m args below meth c D A B 3 Q 0 0 (w_Model_build cI cJ cZ a_t a_ends a_there a_one a_two a_what a_piece a_kinds a_group a_many a_pieceOf a_numberOf a_ups a_jointUp a_partner a_beyonds a_gone thrown made ends there tree items one two what piece pieces joints kinds group many nodes pieceOf numberOf ups jointUp partner beyonds gone) [(0, .ref a_t)] 0 [] := by
  unfold wp_Model_build at h
  refine A_aload_n K d_Model_build 0 0 (pc' := 1) rfl rfl rfl rfl ?_
  refine A_aload_n K d_Model_build 1 0 (pc' := 2) rfl rfl rfl rfl ?_
  refine C_Vi2 K hBA d_Model_build 2 [0, 1, 2, 8] [some 0, some 1, some 2, none, none, none, none, none, some 3, none, none, none, none, none, none, none, none] (As := []) (rest := [.ref a_t]) (pc' := 5) (wl := fun thrown_1 group_2 => w_Model_isFit cI cJ cZ a_t a_ends a_there a_one a_two a_what a_piece a_kinds a_group a_many a_pieceOf a_numberOf a_ups a_jointUp a_partner a_beyonds a_gone thrown_1 made ends there tree items pieces joints group_2 nodes) (ws' := fun thrown_1 group_2 => w_Model_build cI cJ cZ a_t a_ends a_there a_one a_two a_what a_piece a_kinds a_group a_many a_pieceOf a_numberOf a_ups a_jointUp a_partner a_beyonds a_gone thrown_1 made ends there tree items one two what piece pieces joints kinds group_2 many nodes pieceOf numberOf ups jointUp partner beyonds gone) v_Model_156 ⟨rfl, rfl, Nat.le_trans (Nat.le_of_ble_eq_true rfl) hR1, Nat.le_trans (Nat.le_of_ble_eq_true rfl) hR2⟩ (fun sz => met_Model_isFit l D cI cJ cZ a_t a_ends a_there a_one a_two a_what a_piece a_kinds a_group a_many a_pieceOf a_numberOf a_ups a_jointUp a_partner a_beyonds a_gone thrown made ends there tree items pieces joints group nodes _ sz) h rfl rfl rfl rfl rfl (fun _ _ => rfl) rfl (by decide) (Nat.le_of_ble_eq_true rfl) ⟨Nat.zero_le _, Nat.zero_le _⟩ (q0 := 0) rfl rfl (fun _ _ => rfl) (fun r_3 thrown_1 group_2 h => ?_)
  refine A_put K hBA d_Model_build 3 0 fp_Model_74 (pc' := 8) (ws' := w_Model_build cI cJ cZ a_t a_ends a_there a_one a_two a_what a_piece a_kinds a_group a_many a_pieceOf a_numberOf a_ups a_jointUp a_partner a_beyonds a_gone thrown_1 made ends there r_3 items one two what piece pieces joints kinds group_2 many nodes pieceOf numberOf ups jointUp partner beyonds gone) rfl rfl rfl (Nat.le_of_ble_eq_true rfl) h.1.nar h.1.fit rfl ?_
  replace h := h.2
  refine A_aload_n K d_Model_build 4 0 (pc' := 9) rfl rfl rfl rfl ?_
  refine A_iconst K d_Model_build 5 (pc' := 10) (v := 0) rfl rfl (by decide) ?_
  refine A_put K hBA d_Model_build 6 0 fp_Model_63 (pc' := 13) (ws' := w_Model_build cI cJ cZ a_t a_ends a_there a_one a_two a_what a_piece a_kinds a_group a_many a_pieceOf a_numberOf a_ups a_jointUp a_partner a_beyonds a_gone 0 made ends there r_3 items one two what piece pieces joints kinds group_2 many nodes pieceOf numberOf ups jointUp partner beyonds gone) rfl rfl rfl (Nat.le_of_ble_eq_true rfl) rfl rfl rfl ?_
  refine A_aload_n K d_Model_build 7 0 (pc' := 14) rfl rfl rfl rfl ?_
  refine A_get K d_Model_build 8 0 fl_Model_74 (pc' := 17) rfl rfl rfl rfl ?_
  refine A_if_ne K d_Model_build 9 22 (pc' := 20) rfl rfl rfl (fun q => ?_) (fun q => ?_)
  · replace h := h.1 q
    refine A_aload_n K d_Model_build 12 0 (pc' := 23) rfl rfl rfl rfl ?_
    refine A_iconst K d_Model_build 13 (pc' := 24) (v := 0) rfl rfl (by decide) ?_
    refine A_put K hBA d_Model_build 14 0 fp_Model_98 (pc' := 27) (ws' := w_Model_build cI cJ cZ a_t a_ends a_there a_one a_two a_what a_piece a_kinds a_group a_many a_pieceOf a_numberOf a_ups a_jointUp a_partner a_beyonds a_gone 0 made ends there r_3 0 one two what piece pieces joints kinds group_2 many nodes pieceOf numberOf ups jointUp partner beyonds gone) rfl rfl rfl (Nat.le_of_ble_eq_true rfl) rfl rfl rfl ?_
    refine A_aload_n K d_Model_build 15 0 (pc' := 28) rfl rfl rfl rfl ?_
    refine A_iconst K d_Model_build 16 (pc' := 29) (v := 0) rfl rfl (by decide) ?_
    refine A_put K hBA d_Model_build 17 0 fp_Model_133 (pc' := 32) (ws' := w_Model_build cI cJ cZ a_t a_ends a_there a_one a_two a_what a_piece a_kinds a_group a_many a_pieceOf a_numberOf a_ups a_jointUp a_partner a_beyonds a_gone 0 made ends there r_3 0 one two what piece pieces 0 kinds group_2 many nodes pieceOf numberOf ups jointUp partner beyonds gone) rfl rfl rfl (Nat.le_of_ble_eq_true rfl) rfl rfl rfl ?_
    refine A_aload_n K d_Model_build 18 0 (pc' := 33) rfl rfl rfl rfl ?_
    refine A_iconst K d_Model_build 19 (pc' := 34) (v := 1) rfl rfl (by decide) ?_
    refine A_put K hBA d_Model_build 20 0 fp_Model_130 (pc' := 37) (ws' := w_Model_build cI cJ cZ a_t a_ends a_there a_one a_two a_what a_piece a_kinds a_group a_many a_pieceOf a_numberOf a_ups a_jointUp a_partner a_beyonds a_gone 0 made ends there r_3 0 one two what piece 1 0 kinds group_2 many nodes pieceOf numberOf ups jointUp partner beyonds gone) rfl rfl rfl (Nat.le_of_ble_eq_true rfl) rfl rfl rfl ?_
    refine A_aload_n K d_Model_build 21 0 (pc' := 38) rfl rfl rfl rfl ?_
    refine A_iconst K d_Model_build 22 (pc' := 39) (v := 0) rfl rfl (by decide) ?_
    refine A_put K hBA d_Model_build 23 0 fp_Model_146 (pc' := 42) (ws' := w_Model_build cI cJ cZ a_t a_ends a_there a_one a_two a_what a_piece a_kinds a_group a_many a_pieceOf a_numberOf a_ups a_jointUp a_partner a_beyonds a_gone 0 made ends there r_3 0 one two what piece 1 0 kinds group_2 many 0 pieceOf numberOf ups jointUp partner beyonds gone) rfl rfl rfl (Nat.le_of_ble_eq_true rfl) rfl rfl rfl ?_
    refine A_iconst K d_Model_build 24 (pc' := 43) (v := 0) rfl rfl (by decide) ?_
    refine A_istore_n K d_Model_build 25 (pc' := 44) (lv' := [(1, .int 0), (0, .ref a_t)]) rfl rfl rfl (by decide) rfl ?_
    refine A_lv [1, 0] rfl ?_
    obtain ⟨n_12, h⟩ := h
    refine sL6_ind (fun (i1_4 : Int32) (items_5 : Int32) (one_6 : Nat → Int32) (two_7 : Nat → Int32) (what_8 : Nat → Int32) (piece_9 : Nat → Int32) => AW p l e R s m args below meth c D A B 3 Q 0 0 (w_Model_build cI cJ cZ a_t a_ends a_there a_one a_two a_what a_piece a_kinds a_group a_many a_pieceOf a_numberOf a_ups a_jointUp a_partner a_beyonds a_gone 0 made ends there r_3 items_5 one_6 two_7 what_8 piece_9 1 0 kinds group_2 many 0 pieceOf numberOf ups jointUp partner beyonds gone) [(0, .ref a_t), (1, .int i1_4)] 44 []) ?_ n_12 _ _ _ _ _ _ h
    intro K_10 ih_11 i1_4 items_5 one_6 two_7 what_8 piece_9 h
    refine A_iload_n K d_Model_build 26 1 (pc' := 45) rfl rfl rfl rfl ?_
    refine A_aload_n K d_Model_build 27 0 (pc' := 46) rfl rfl rfl rfl ?_
    refine A_get K d_Model_build 28 0 fl_Model_59 (pc' := 49) rfl rfl rfl rfl ?_
    refine A_icmp_ge K d_Model_build 29 91 (pc' := 52) rfl rfl rfl (fun q => ?_) (fun q => ?_)
    · replace h := h.1 q
      refine A_iconst K d_Model_build 55 (pc' := 92) (v := 0) rfl rfl (by decide) ?_
      refine A_istore_n K d_Model_build 56 (pc' := 93) (lv' := [(1, .int 0), (0, .ref a_t)]) rfl rfl rfl (by decide) rfl ?_
      refine A_lv [1, 0] rfl ?_
      obtain ⟨n_25, h⟩ := h
      refine sL10_ind (fun (i1_13 : Int32) (items_14 : Int32) (one_15 : Nat → Int32) (two_16 : Nat → Int32) (what_17 : Nat → Int32) (piece_18 : Nat → Int32) (pieces_19 : Int32) (joints_20 : Int32) (group_21 : Nat → Int32) (many_22 : Nat → Int32) => AW p l e R s m args below meth c D A B 3 Q 0 0 (w_Model_build cI cJ cZ a_t a_ends a_there a_one a_two a_what a_piece a_kinds a_group a_many a_pieceOf a_numberOf a_ups a_jointUp a_partner a_beyonds a_gone 0 made ends there r_3 items_14 one_15 two_16 what_17 piece_18 pieces_19 joints_20 kinds group_21 many_22 0 pieceOf numberOf ups jointUp partner beyonds gone) [(0, .ref a_t), (1, .int i1_13)] 93 []) ?_ n_25 _ _ _ _ _ _ _ _ _ _ h
      intro K_23 ih_24 i1_13 items_14 one_15 two_16 what_17 piece_18 pieces_19 joints_20 group_21 many_22 h
      refine A_iload_n K d_Model_build 57 1 (pc' := 94) rfl rfl rfl rfl ?_
      refine A_aload_n K d_Model_build 58 0 (pc' := 95) rfl rfl rfl rfl ?_
      refine A_get K d_Model_build 59 0 fl_Model_130 (pc' := 98) rfl rfl rfl rfl ?_
      refine A_icmp_ge K d_Model_build 60 122 (pc' := 101) rfl rfl rfl (fun q => ?_) (fun q => ?_)
      · replace h := h.1 q
        refine A_iconst K d_Model_build 72 (pc' := 123) (v := 0) rfl rfl (by decide) ?_
        refine A_istore_n K d_Model_build 73 (pc' := 124) (lv' := [(1, .int 0), (0, .ref a_t)]) rfl rfl rfl (by decide) rfl ?_
        refine A_lv [1, 0] rfl ?_
        obtain ⟨n_30, h⟩ := h
        refine sL2_ind (fun (i1_26 : Int32) (kinds_27 : Nat → Int32) => AW p l e R s m args below meth c D A B 3 Q 0 0 (w_Model_build cI cJ cZ a_t a_ends a_there a_one a_two a_what a_piece a_kinds a_group a_many a_pieceOf a_numberOf a_ups a_jointUp a_partner a_beyonds a_gone 0 made ends there r_3 items_14 one_15 two_16 what_17 piece_18 pieces_19 joints_20 kinds_27 group_21 many_22 0 pieceOf numberOf ups jointUp partner beyonds gone) [(0, .ref a_t), (1, .int i1_26)] 124 []) ?_ n_30 _ _ h
        intro K_28 ih_29 i1_26 kinds_27 h
        refine A_iload_n K d_Model_build 74 1 (pc' := 125) rfl rfl rfl rfl ?_
        refine A_aload_n K d_Model_build 75 0 (pc' := 126) rfl rfl rfl rfl ?_
        refine A_get K d_Model_build 76 0 fl_Model_130 (pc' := 129) rfl rfl rfl rfl ?_
        refine A_icmp_ge K d_Model_build 77 171 (pc' := 132) rfl rfl rfl (fun q => ?_) (fun q => ?_)
        · replace h := h.1 q
          refine A_aload_n K d_Model_build 99 0 (pc' := 172) rfl rfl rfl rfl ?_
          refine C_Vv1 K hBA d_Model_build 100 [0, 5, 6, 7] [some 0, none, none, none, none, some 1, some 2, some 3, none, none, none, none, none, none, none, none, none] (As := []) (rest := []) (pc' := 175) (wl := fun piece_31 => w_Model_putTogether cI cJ cZ a_t a_ends a_there a_one a_two a_what a_piece a_kinds a_group a_many a_pieceOf a_numberOf a_ups a_jointUp a_partner a_beyonds a_gone 0 made r_3 items_14 what_17 piece_31 pieces_19 joints_20 kinds_27 0) (ws' := fun piece_31 => w_Model_build cI cJ cZ a_t a_ends a_there a_one a_two a_what a_piece a_kinds a_group a_many a_pieceOf a_numberOf a_ups a_jointUp a_partner a_beyonds a_gone 0 made ends there r_3 items_14 one_15 two_16 what_17 piece_31 pieces_19 joints_20 kinds_27 group_21 many_22 0 pieceOf numberOf ups jointUp partner beyonds gone) v_Model_166 ⟨rfl, rfl, Nat.le_trans (Nat.le_of_ble_eq_true rfl) hR1, Nat.le_trans (Nat.le_of_ble_eq_true rfl) hR2⟩ (fun sz => met_Model_putTogether l D cI cJ cZ a_t a_ends a_there a_one a_two a_what a_piece a_kinds a_group a_many a_pieceOf a_numberOf a_ups a_jointUp a_partner a_beyonds a_gone 0 made r_3 items_14 what_17 piece_18 pieces_19 joints_20 kinds_27 0 _ sz) h rfl rfl rfl rfl rfl (fun _ => rfl) rfl (by decide) (Nat.le_of_ble_eq_true rfl) ⟨Nat.zero_le _, Nat.zero_le _⟩ (q0 := 0) rfl rfl (fun _ => rfl) (fun piece_31 h => ?_)
          refine A_aload_n K d_Model_build 101 0 (pc' := 176) rfl rfl rfl rfl ?_
          refine C_Vv2 K hBA d_Model_build 102 [0, 5, 6, 14, 15] [some 0, none, none, none, none, some 1, some 2, none, none, none, none, none, none, none, some 3, some 4, none] (As := []) (rest := []) (pc' := 179) (wl := fun partner_32 beyonds_33 => w_Model_lookBeyond cI cJ cZ a_t a_ends a_there a_one a_two a_what a_piece a_kinds a_group a_many a_pieceOf a_numberOf a_ups a_jointUp a_partner a_beyonds a_gone 0 made r_3 items_14 what_17 piece_31 pieces_19 joints_20 0 partner_32 beyonds_33) (ws' := fun partner_32 beyonds_33 => w_Model_build cI cJ cZ a_t a_ends a_there a_one a_two a_what a_piece a_kinds a_group a_many a_pieceOf a_numberOf a_ups a_jointUp a_partner a_beyonds a_gone 0 made ends there r_3 items_14 one_15 two_16 what_17 piece_31 pieces_19 joints_20 kinds_27 group_21 many_22 0 pieceOf numberOf ups jointUp partner_32 beyonds_33 gone) v_Model_169 ⟨rfl, rfl, Nat.le_trans (Nat.le_of_ble_eq_true rfl) hR1, Nat.le_trans (Nat.le_of_ble_eq_true rfl) hR2⟩ (fun sz => met_Model_lookBeyond l D cI cJ cZ a_t a_ends a_there a_one a_two a_what a_piece a_kinds a_group a_many a_pieceOf a_numberOf a_ups a_jointUp a_partner a_beyonds a_gone 0 made r_3 items_14 what_17 piece_31 pieces_19 joints_20 0 partner beyonds _ sz) h rfl rfl rfl rfl rfl (fun _ _ => rfl) rfl (by decide) (Nat.le_of_ble_eq_true rfl) ⟨Nat.zero_le _, Nat.zero_le _⟩ (q0 := 0) rfl rfl (fun _ _ => rfl) (fun partner_32 beyonds_33 h => ?_)
          refine A_aload_n K d_Model_build 103 0 (pc' := 180) rfl rfl rfl rfl ?_
          refine A_aload_n K d_Model_build 104 0 (pc' := 181) rfl rfl rfl rfl ?_
          refine A_get K d_Model_build 105 0 fl_Model_26 (pc' := 184) rfl rfl rfl rfl ?_
          refine A_iconst K d_Model_build 106 (pc' := 185) (v := 0) rfl rfl (by decide) ?_
          refine A_iald K d_Model_build 107 6 0 (pc' := 186) rfl rfl rfl rfl h.1 ?_
          replace h := h.2
          refine C_Vv6 K hBA d_Model_build 108 [0, 5, 6, 10, 11, 12, 13, 14, 15, 16] [some 0, none, none, none, none, some 1, some 2, none, none, none, some 3, some 4, some 5, some 6, some 7, some 8, some 9] (As := [.int (piece_31 (ix 0))]) (rest := []) (pc' := 189) (wl := fun nodes_34 pieceOf_35 numberOf_36 ups_37 jointUp_38 gone_39 => w_Model_number cI cJ cZ a_t a_ends a_there a_one a_two a_what a_piece a_kinds a_group a_many a_pieceOf a_numberOf a_ups a_jointUp a_partner a_beyonds a_gone 0 made r_3 items_14 what_17 piece_31 pieces_19 joints_20 nodes_34 pieceOf_35 numberOf_36 ups_37 jointUp_38 partner_32 beyonds_33 gone_39) (ws' := fun nodes_34 pieceOf_35 numberOf_36 ups_37 jointUp_38 gone_39 => w_Model_build cI cJ cZ a_t a_ends a_there a_one a_two a_what a_piece a_kinds a_group a_many a_pieceOf a_numberOf a_ups a_jointUp a_partner a_beyonds a_gone 0 made ends there r_3 items_14 one_15 two_16 what_17 piece_31 pieces_19 joints_20 kinds_27 group_21 many_22 nodes_34 pieceOf_35 numberOf_36 ups_37 jointUp_38 partner_32 beyonds_33 gone_39) v_Model_172 ⟨rfl, rfl, Nat.le_trans (Nat.le_of_ble_eq_true rfl) hR1, Nat.le_trans (Nat.le_of_ble_eq_true rfl) hR2⟩ (fun sz => met_Model_number l D cI cJ cZ a_t a_ends a_there a_one a_two a_what a_piece a_kinds a_group a_many a_pieceOf a_numberOf a_ups a_jointUp a_partner a_beyonds a_gone 0 made r_3 items_14 what_17 piece_31 pieces_19 joints_20 0 pieceOf numberOf ups jointUp partner_32 beyonds_33 gone (piece_31 (ix 0)) _ sz) h rfl rfl rfl rfl rfl (fun _ _ _ _ _ _ => rfl) rfl (by decide) (Nat.le_of_ble_eq_true rfl) ⟨Nat.zero_le _, Nat.zero_le _⟩ (q0 := 0) rfl rfl (fun _ _ _ _ _ _ => rfl) (fun nodes_34 pieceOf_35 numberOf_36 ups_37 jointUp_38 gone_39 h => ?_)
          refine A_aload_n K d_Model_build 109 0 (pc' := 190) rfl rfl rfl rfl ?_
          refine A_get K d_Model_build 110 0 fl_Model_146 (pc' := 193) rfl rfl rfl rfl ?_
          exact hend 111 _ _ _ _ _ _ _ _ _ _ _ _ _ _ _ _ _ _ _ _ _ _ _ rfl h
        · replace h := h.2 q
          refine A_aload_n K d_Model_build 78 0 (pc' := 133) rfl rfl rfl rfl ?_
          refine A_get K d_Model_build 79 0 fl_Model_29 (pc' := 136) rfl rfl rfl rfl ?_
          refine A_iload_n K d_Model_build 80 1 (pc' := 137) rfl rfl rfl rfl ?_
          refine A_aload_n K d_Model_build 81 0 (pc' := 138) rfl rfl rfl rfl ?_
          refine A_iload_n K d_Model_build 82 1 (pc' := 139) rfl rfl rfl rfl ?_
          refine R_callV_i K d_Model_build 83 [0, 3, 4, 6] (As := [.int i1_26]) (rest := [.int i1_26, .ref a_kinds]) (pc' := 142) v_Model_163 ⟨rfl, rfl, Nat.le_trans (Nat.le_of_ble_eq_true rfl) hR1, Nat.le_trans (Nat.le_of_ble_eq_true rfl) hR2⟩ (fun sz => met_Model_pointsOf l D cI cJ cZ a_t a_ends a_there a_one a_two a_what a_piece a_kinds a_group a_many a_pieceOf a_numberOf a_ups a_jointUp a_partner a_beyonds a_gone 0 made r_3 items_14 one_15 two_16 piece_18 pieces_19 joints_20 0 i1_26 _ sz) h rfl rfl rfl rfl rfl rfl (Nat.le_of_ble_eq_true rfl) ⟨Nat.zero_le _, Nat.zero_le _⟩ (q0 := 0) rfl rfl (fun r_40 h => ?_)
          refine A_iconst K d_Model_build 84 (pc' := 143) (v := 2) rfl rfl (by decide) ?_
          refine A_icmp_ne K d_Model_build 85 150 (pc' := 146) rfl rfl rfl (fun q => ?_) (fun q => ?_)
          · replace h := h.1 q
            refine A_aload_n K d_Model_build 88 0 (pc' := 151) rfl rfl rfl rfl ?_
            refine A_iload_n K d_Model_build 89 1 (pc' := 152) rfl rfl rfl rfl ?_
            refine R_callV_i K d_Model_build 90 [0, 3, 4, 6] (As := [.int i1_26]) (rest := [.int i1_26, .ref a_kinds]) (pc' := 155) v_Model_163 ⟨rfl, rfl, Nat.le_trans (Nat.le_of_ble_eq_true rfl) hR1, Nat.le_trans (Nat.le_of_ble_eq_true rfl) hR2⟩ (fun sz => met_Model_pointsOf l D cI cJ cZ a_t a_ends a_there a_one a_two a_what a_piece a_kinds a_group a_many a_pieceOf a_numberOf a_ups a_jointUp a_partner a_beyonds a_gone 0 made r_3 items_14 one_15 two_16 piece_18 pieces_19 joints_20 0 i1_26 _ sz) h rfl rfl rfl rfl rfl rfl (Nat.le_of_ble_eq_true rfl) ⟨Nat.zero_le _, Nat.zero_le _⟩ (q0 := 0) rfl rfl (fun r_41 h => ?_)
            refine A_iconst K d_Model_build 91 (pc' := 156) (v := 3) rfl rfl (by decide) ?_
            refine A_icmp_ne K d_Model_build 92 163 (pc' := 159) rfl rfl rfl (fun q => ?_) (fun q => ?_)
            · replace h := h.1 q
              refine A_iconst K d_Model_build 95 (pc' := 164) (v := 2) rfl rfl (by decide) ?_
              refine A_iastN K hBA d_Model_build 96 7 0 (pc' := 165) (ws' := fun kinds_42 => w_Model_build cI cJ cZ a_t a_ends a_there a_one a_two a_what a_piece a_kinds a_group a_many a_pieceOf a_numberOf a_ups a_jointUp a_partner a_beyonds a_gone 0 made ends there r_3 items_14 one_15 two_16 what_17 piece_18 pieces_19 joints_20 kinds_42 group_21 many_22 0 pieceOf numberOf ups jointUp partner beyonds gone) rfl rfl rfl rfl h.1 (fun _ => rfl) (fun kinds_42 e_43 => ?_)
              replace h := h.2 kinds_42 e_43
              refine A_iinc K d_Model_build 97 1 (pc' := 168) (v := i1_26 + 1) (lv' := [(1, .int (i1_26 + 1)), (0, .ref a_t)]) rfl rfl rfl rfl (by decide) rfl ?_
              refine A_goto K d_Model_build 98 (pc' := 124) rfl rfl ?_
              refine A_lv [1, 0] rfl ?_
              exact ih_29 _ _ h
            · replace h := h.2 q
              refine A_iconst K d_Model_build 93 (pc' := 160) (v := 1) rfl rfl (by decide) ?_
              refine A_goto K d_Model_build 94 (pc' := 164) rfl rfl ?_
              refine A_iastN K hBA d_Model_build 96 7 0 (pc' := 165) (ws' := fun kinds_44 => w_Model_build cI cJ cZ a_t a_ends a_there a_one a_two a_what a_piece a_kinds a_group a_many a_pieceOf a_numberOf a_ups a_jointUp a_partner a_beyonds a_gone 0 made ends there r_3 items_14 one_15 two_16 what_17 piece_18 pieces_19 joints_20 kinds_44 group_21 many_22 0 pieceOf numberOf ups jointUp partner beyonds gone) rfl rfl rfl rfl h.1 (fun _ => rfl) (fun kinds_44 e_45 => ?_)
              replace h := h.2 kinds_44 e_45
              refine A_iinc K d_Model_build 97 1 (pc' := 168) (v := i1_26 + 1) (lv' := [(1, .int (i1_26 + 1)), (0, .ref a_t)]) rfl rfl rfl rfl (by decide) rfl ?_
              refine A_goto K d_Model_build 98 (pc' := 124) rfl rfl ?_
              refine A_lv [1, 0] rfl ?_
              exact ih_29 _ _ h
          · replace h := h.2 q
            refine A_iconst K d_Model_build 86 (pc' := 147) (v := 0) rfl rfl (by decide) ?_
            refine A_goto K d_Model_build 87 (pc' := 164) rfl rfl ?_
            refine A_iastN K hBA d_Model_build 96 7 0 (pc' := 165) (ws' := fun kinds_46 => w_Model_build cI cJ cZ a_t a_ends a_there a_one a_two a_what a_piece a_kinds a_group a_many a_pieceOf a_numberOf a_ups a_jointUp a_partner a_beyonds a_gone 0 made ends there r_3 items_14 one_15 two_16 what_17 piece_18 pieces_19 joints_20 kinds_46 group_21 many_22 0 pieceOf numberOf ups jointUp partner beyonds gone) rfl rfl rfl rfl h.1 (fun _ => rfl) (fun kinds_46 e_47 => ?_)
            replace h := h.2 kinds_46 e_47
            refine A_iinc K d_Model_build 97 1 (pc' := 168) (v := i1_26 + 1) (lv' := [(1, .int (i1_26 + 1)), (0, .ref a_t)]) rfl rfl rfl rfl (by decide) rfl ?_
            refine A_goto K d_Model_build 98 (pc' := 124) rfl rfl ?_
            refine A_lv [1, 0] rfl ?_
            exact ih_29 _ _ h
      · replace h := h.2 q
        refine A_iconst K d_Model_build 61 (pc' := 102) (v := 1) rfl rfl (by decide) ?_
        refine A_istore_n K d_Model_build 62 (pc' := 103) (lv' := [(2, .int 1), (0, .ref a_t), (1, .int i1_13)]) rfl rfl rfl (by decide) rfl ?_
        refine A_lv [1, 2, 0] rfl ?_
        obtain ⟨n_60, h⟩ := h
        refine sL10_ind (fun (i2_48 : Int32) (items_49 : Int32) (one_50 : Nat → Int32) (two_51 : Nat → Int32) (what_52 : Nat → Int32) (piece_53 : Nat → Int32) (pieces_54 : Int32) (joints_55 : Int32) (group_56 : Nat → Int32) (many_57 : Nat → Int32) => AW p l e R s m args below meth c D A B 3 Q 0 0 (w_Model_build cI cJ cZ a_t a_ends a_there a_one a_two a_what a_piece a_kinds a_group a_many a_pieceOf a_numberOf a_ups a_jointUp a_partner a_beyonds a_gone 0 made ends there r_3 items_49 one_50 two_51 what_52 piece_53 pieces_54 joints_55 kinds group_56 many_57 0 pieceOf numberOf ups jointUp partner beyonds gone) [(0, .ref a_t), (1, .int i1_13), (2, .int i2_48)] 103 []) ?_ n_60 _ _ _ _ _ _ _ _ _ _ h
        intro K_58 ih_59 i2_48 items_49 one_50 two_51 what_52 piece_53 pieces_54 joints_55 group_56 many_57 h
        refine A_iload_n K d_Model_build 63 2 (pc' := 104) rfl rfl rfl rfl ?_
        refine A_if_eq K d_Model_build 64 116 (pc' := 107) rfl rfl rfl (fun q => ?_) (fun q => ?_)
        · replace h := h.1 q
          refine A_iinc K d_Model_build 70 1 (pc' := 119) (v := i1_13 + 1) (lv' := [(1, .int (i1_13 + 1)), (0, .ref a_t), (2, .int i2_48)]) rfl rfl rfl rfl (by decide) rfl ?_
          refine A_goto K d_Model_build 71 (pc' := 93) rfl rfl ?_
          refine A_lv [1, 0] rfl ?_
          exact ih_24 _ _ _ _ _ _ _ _ _ _ h
        · replace h := h.2 q
          refine A_aload_n K d_Model_build 65 0 (pc' := 108) rfl rfl rfl rfl ?_
          refine A_iload_n K d_Model_build 66 1 (pc' := 109) rfl rfl rfl rfl ?_
          refine C_Vi9 K hBA d_Model_build 67 [0, 3, 4, 5, 6, 8, 9] [some 0, none, none, some 1, some 2, some 3, some 4, none, some 5, some 6, none, none, none, none, none, none, none] (As := [.int i1_13]) (rest := []) (pc' := 112) (wl := fun items_61 one_62 two_63 what_64 piece_65 pieces_66 joints_67 group_68 many_69 => w_Model_split cI cJ cZ a_t a_ends a_there a_one a_two a_what a_piece a_kinds a_group a_many a_pieceOf a_numberOf a_ups a_jointUp a_partner a_beyonds a_gone 0 made r_3 items_61 one_62 two_63 what_64 piece_65 pieces_66 joints_67 group_68 many_69 0) (ws' := fun items_61 one_62 two_63 what_64 piece_65 pieces_66 joints_67 group_68 many_69 => w_Model_build cI cJ cZ a_t a_ends a_there a_one a_two a_what a_piece a_kinds a_group a_many a_pieceOf a_numberOf a_ups a_jointUp a_partner a_beyonds a_gone 0 made ends there r_3 items_61 one_62 two_63 what_64 piece_65 pieces_66 joints_67 kinds group_68 many_69 0 pieceOf numberOf ups jointUp partner beyonds gone) v_Model_160 ⟨rfl, rfl, Nat.le_trans (Nat.le_of_ble_eq_true rfl) hR1, Nat.le_trans (Nat.le_of_ble_eq_true rfl) hR2⟩ (fun sz => met_Model_split l D cI cJ cZ a_t a_ends a_there a_one a_two a_what a_piece a_kinds a_group a_many a_pieceOf a_numberOf a_ups a_jointUp a_partner a_beyonds a_gone 0 made r_3 items_49 one_50 two_51 what_52 piece_53 pieces_54 joints_55 group_56 many_57 0 i1_13 _ sz) h rfl rfl rfl rfl rfl (fun _ _ _ _ _ _ _ _ _ => rfl) rfl (by decide) (Nat.le_of_ble_eq_true rfl) ⟨Nat.zero_le _, Nat.zero_le _⟩ (q0 := 0) rfl rfl (fun _ _ _ _ _ _ _ _ _ => rfl) (fun r_70 items_61 one_62 two_63 what_64 piece_65 pieces_66 joints_67 group_68 many_69 h => ?_)
          refine A_istore_n K d_Model_build 68 (pc' := 113) (lv' := [(2, .int r_70), (0, .ref a_t), (1, .int i1_13)]) rfl rfl rfl (by decide) rfl ?_
          refine A_goto K d_Model_build 69 (pc' := 103) rfl rfl ?_
          refine A_lv [1, 2, 0] rfl ?_
          exact ih_59 _ _ _ _ _ _ _ _ _ _ h
    · replace h := h.2 q
      refine A_aload_n K d_Model_build 30 0 (pc' := 53) rfl rfl rfl rfl ?_
      refine A_get K d_Model_build 31 0 fl_Model_13 (pc' := 56) rfl rfl rfl rfl ?_
      refine A_iload_n K d_Model_build 32 1 (pc' := 57) rfl rfl rfl rfl ?_
      refine A_zald K d_Model_build 33 2 2 (pc' := 58) rfl rfl rfl rfl h.1 ?_
      replace h := h.2
      refine A_if_eq K d_Model_build 34 85 (pc' := 61) rfl rfl rfl (fun q => ?_) (fun q => ?_)
      · replace h := h.1 q
        refine A_iinc K d_Model_build 53 1 (pc' := 88) (v := i1_4 + 1) (lv' := [(1, .int (i1_4 + 1)), (0, .ref a_t)]) rfl rfl rfl rfl (by decide) rfl ?_
        refine A_goto K d_Model_build 54 (pc' := 44) rfl rfl ?_
        refine A_lv [1, 0] rfl ?_
        exact ih_11 _ _ _ _ _ _ h
      · replace h := h.2 q
        refine A_aload_n K d_Model_build 35 0 (pc' := 62) rfl rfl rfl rfl ?_
        refine A_aload_n K d_Model_build 36 0 (pc' := 63) rfl rfl rfl rfl ?_
        refine A_get K d_Model_build 37 0 fl_Model_7 (pc' := 66) rfl rfl rfl rfl ?_
        refine A_iconst K d_Model_build 38 (pc' := 67) (v := 2) rfl rfl (by decide) ?_
        refine A_iload_n K d_Model_build 39 1 (pc' := 68) rfl rfl rfl rfl ?_
        refine A_imul K d_Model_build 40 (pc' := 69) rfl rfl ?_
        refine A_iald K d_Model_build 41 1 0 (pc' := 70) rfl rfl rfl rfl h.1 ?_
        replace h := h.2
        refine A_aload_n K d_Model_build 42 0 (pc' := 71) rfl rfl rfl rfl ?_
        refine A_get K d_Model_build 43 0 fl_Model_7 (pc' := 74) rfl rfl rfl rfl ?_
        refine A_iconst K d_Model_build 44 (pc' := 75) (v := 2) rfl rfl (by decide) ?_
        refine A_iload_n K d_Model_build 45 1 (pc' := 76) rfl rfl rfl rfl ?_
        refine A_imul K d_Model_build 46 (pc' := 77) rfl rfl ?_
        refine A_iconst K d_Model_build 47 (pc' := 78) (v := 1) rfl rfl (by decide) ?_
        refine A_iadd K d_Model_build 48 (pc' := 79) rfl rfl ?_
        refine A_iald K d_Model_build 49 1 0 (pc' := 80) rfl rfl rfl rfl h.1 ?_
        replace h := h.2
        refine A_iload_n K d_Model_build 50 1 (pc' := 81) rfl rfl rfl rfl ?_
        refine A_iconst K d_Model_build 51 (pc' := 82) (v := 0) rfl rfl (by decide) ?_
        refine C_Vv5 K hBA d_Model_build 52 [0, 3, 4, 5, 6] [some 0, none, none, some 1, some 2, some 3, some 4, none, none, none, none, none, none, none, none, none, none] (As := [.int (ends (ix (2 * i1_4))), .int (ends (ix ((2 * i1_4) + 1))), .int i1_4, .int 0]) (rest := []) (pc' := 85) (wl := fun items_71 one_72 two_73 what_74 piece_75 => w_Model_add cI cJ cZ a_t a_ends a_there a_one a_two a_what a_piece a_kinds a_group a_many a_pieceOf a_numberOf a_ups a_jointUp a_partner a_beyonds a_gone 0 made r_3 items_71 one_72 two_73 what_74 piece_75 1 0 0) (ws' := fun items_71 one_72 two_73 what_74 piece_75 => w_Model_build cI cJ cZ a_t a_ends a_there a_one a_two a_what a_piece a_kinds a_group a_many a_pieceOf a_numberOf a_ups a_jointUp a_partner a_beyonds a_gone 0 made ends there r_3 items_71 one_72 two_73 what_74 piece_75 1 0 kinds group_2 many 0 pieceOf numberOf ups jointUp partner beyonds gone) v_Model_136 ⟨rfl, rfl, Nat.le_trans (Nat.le_of_ble_eq_true rfl) hR1, Nat.le_trans (Nat.le_of_ble_eq_true rfl) hR2⟩ (fun sz => met_Model_add l D cI cJ cZ a_t a_ends a_there a_one a_two a_what a_piece a_kinds a_group a_many a_pieceOf a_numberOf a_ups a_jointUp a_partner a_beyonds a_gone 0 made r_3 items_5 one_6 two_7 what_8 piece_9 1 0 0 (ends (ix (2 * i1_4))) (ends (ix ((2 * i1_4) + 1))) i1_4 0 _ sz) h rfl rfl rfl rfl rfl (fun _ _ _ _ _ => rfl) rfl (by decide) (Nat.le_of_ble_eq_true rfl) ⟨Nat.zero_le _, Nat.zero_le _⟩ (q0 := 0) rfl rfl (fun _ _ _ _ _ => rfl) (fun items_71 one_72 two_73 what_74 piece_75 h => ?_)
        refine A_iinc K d_Model_build 53 1 (pc' := 88) (v := i1_4 + 1) (lv' := [(1, .int (i1_4 + 1)), (0, .ref a_t)]) rfl rfl rfl rfl (by decide) rfl ?_
        refine A_goto K d_Model_build 54 (pc' := 44) rfl rfl ?_
        refine A_lv [1, 0] rfl ?_
        exact ih_11 _ _ _ _ _ _ h
  · replace h := h.2 q
    refine A_iconst K d_Model_build 10 (pc' := 21) (v := (-1)) rfl rfl (by decide) ?_
    exact hend 11 _ _ _ _ _ _ _ _ _ _ _ _ _ _ _ _ _ _ _ _ _ _ _ rfl h
theorem met_Model_build (l : Launch) (D : va_G) (cI cJ cZ : ClassId) (a_t a_ends a_there a_one a_two a_what a_piece a_kinds a_group a_many a_pieceOf a_numberOf a_ups a_jointUp a_partner a_beyonds a_gone : Nat) (thrown : Int32) (made : Int32) (ends : Nat → Int32) (there : Nat → Int32) (tree : Int32) (items : Int32) (one : Nat → Int32) (two : Nat → Int32) (what : Nat → Int32) (piece : Nat → Int32) (pieces : Int32) (joints : Int32) (kinds : Nat → Int32) (group : Nat → Int32) (many : Nat → Int32) (nodes : Int32) (pieceOf : Nat → Int32) (numberOf : Nat → Int32) (ups : Nat → Int32) (jointUp : Nat → Int32) (partner : Nat → Int32) (beyonds : Nat → Int32) (gone : Nat → Int32)  (post : Int32 → Int32 → Int32 → Int32 → (Nat → Int32) → (Nat → Int32) → (Nat → Int32) → (Nat → Int32) → Int32 → Int32 → (Nat → Int32) → (Nat → Int32) → (Nat → Int32) → Int32 → (Nat → Int32) → (Nat → Int32) → (Nat → Int32) → (Nat → Int32) → (Nat → Int32) → (Nat → Int32) → (Nat → Int32) → Prop) (sz : Nat) : Met l y_Model_build (Cond.code y_Model_build c_Model_build 3 (Option.some Jvm.ClassFile.FieldType.int) :: GW) { frames := 6, cells := 0, slots := 0, locals := 144 } (va_Pc [.ref a_t] (fun U => sk_P D (tyl cI cJ cZ) (w_Model_build cI cJ cZ a_t a_ends a_there a_one a_two a_what a_piece a_kinds a_group a_many a_pieceOf a_numberOf a_ups a_jointUp a_partner a_beyonds a_gone thrown made ends there tree items one two what piece pieces joints kinds group many nodes pieceOf numberOf ups jointUp partner beyonds gone) sz U ∧ wp_Model_build thrown made ends there tree items one two what piece pieces joints kinds group many nodes pieceOf numberOf ups jointUp partner beyonds gone post)) (va_Qi (fun (r : Int32) (u : Int32 × Int32 × Int32 × (Nat → Int32) × (Nat → Int32) × (Nat → Int32) × (Nat → Int32) × Int32 × Int32 × (Nat → Int32) × (Nat → Int32) × (Nat → Int32) × Int32 × (Nat → Int32) × (Nat → Int32) × (Nat → Int32) × (Nat → Int32) × (Nat → Int32) × (Nat → Int32) × (Nat → Int32)) => post r u.1 u.2.1 u.2.2.1 u.2.2.2.1 u.2.2.2.2.1 u.2.2.2.2.2.1 u.2.2.2.2.2.2.1 u.2.2.2.2.2.2.2.1 u.2.2.2.2.2.2.2.2.1 u.2.2.2.2.2.2.2.2.2.1 u.2.2.2.2.2.2.2.2.2.2.1 u.2.2.2.2.2.2.2.2.2.2.2.1 u.2.2.2.2.2.2.2.2.2.2.2.2.1 u.2.2.2.2.2.2.2.2.2.2.2.2.2.1 u.2.2.2.2.2.2.2.2.2.2.2.2.2.2.1 u.2.2.2.2.2.2.2.2.2.2.2.2.2.2.2.1 u.2.2.2.2.2.2.2.2.2.2.2.2.2.2.2.2.1 u.2.2.2.2.2.2.2.2.2.2.2.2.2.2.2.2.2.1 u.2.2.2.2.2.2.2.2.2.2.2.2.2.2.2.2.2.2.1 u.2.2.2.2.2.2.2.2.2.2.2.2.2.2.2.2.2.2.2) (fun u t => sk_B D (tyl cI cJ cZ) (w_Model_build cI cJ cZ a_t a_ends a_there a_one a_two a_what a_piece a_kinds a_group a_many a_pieceOf a_numberOf a_ups a_jointUp a_partner a_beyonds a_gone u.1 made ends there u.2.1 u.2.2.1 u.2.2.2.1 u.2.2.2.2.1 u.2.2.2.2.2.1 u.2.2.2.2.2.2.1 u.2.2.2.2.2.2.2.1 u.2.2.2.2.2.2.2.2.1 u.2.2.2.2.2.2.2.2.2.1 u.2.2.2.2.2.2.2.2.2.2.1 u.2.2.2.2.2.2.2.2.2.2.2.1 u.2.2.2.2.2.2.2.2.2.2.2.2.1 u.2.2.2.2.2.2.2.2.2.2.2.2.2.1 u.2.2.2.2.2.2.2.2.2.2.2.2.2.2.1 u.2.2.2.2.2.2.2.2.2.2.2.2.2.2.2.1 u.2.2.2.2.2.2.2.2.2.2.2.2.2.2.2.2.1 u.2.2.2.2.2.2.2.2.2.2.2.2.2.2.2.2.2.1 u.2.2.2.2.2.2.2.2.2.2.2.2.2.2.2.2.2.2.1 u.2.2.2.2.2.2.2.2.2.2.2.2.2.2.2.2.2.2.2) (va_A (w_Model_build cI cJ cZ a_t a_ends a_there a_one a_two a_what a_piece a_kinds a_group a_many a_pieceOf a_numberOf a_ups a_jointUp a_partner a_beyonds a_gone thrown made ends there tree items one two what piece pieces joints kinds group many nodes pieceOf numberOf ups jointUp partner beyonds gone) sz) t) (va_A (w_Model_build cI cJ cZ a_t a_ends a_there a_one a_two a_what a_piece a_kinds a_group a_many a_pieceOf a_numberOf a_ups a_jointUp a_partner a_beyonds a_gone thrown made ends there tree items one two what piece pieces joints kinds group many nodes pieceOf numberOf ups jointUp partner beyonds gone) sz)) 0 0 (va_A (w_Model_build cI cJ cZ a_t a_ends a_there a_one a_two a_what a_piece a_kinds a_group a_many a_pieceOf a_numberOf a_ups a_jointUp a_partner a_beyonds a_gone thrown made ends there tree items one two what piece pieces joints kinds group many nodes pieceOf numberOf ups jointUp partner beyonds gone) sz) :=
  sk_intro (by decide) (Nat.le_of_ble_eq_true rfl) (fun p e s m below meth c K hr _ h => bd_Model_build K (Nat.le_refl _) (Nat.le_refl _) (fun _ z => z) (fun ti pc r y0 y1 y2 y3 y4 y5 y6 y7 y8 y9 y10 y11 y12 y13 y14 y15 y16 y17 y18 y19 lv hd hp => A_iret K d_Model_build ti hr (post := (fun (r : Int32) (u : Int32 × Int32 × Int32 × (Nat → Int32) × (Nat → Int32) × (Nat → Int32) × (Nat → Int32) × Int32 × Int32 × (Nat → Int32) × (Nat → Int32) × (Nat → Int32) × Int32 × (Nat → Int32) × (Nat → Int32) × (Nat → Int32) × (Nat → Int32) × (Nat → Int32) × (Nat → Int32) × (Nat → Int32)) => post r u.1 u.2.1 u.2.2.1 u.2.2.2.1 u.2.2.2.2.1 u.2.2.2.2.2.1 u.2.2.2.2.2.2.1 u.2.2.2.2.2.2.2.1 u.2.2.2.2.2.2.2.2.1 u.2.2.2.2.2.2.2.2.2.1 u.2.2.2.2.2.2.2.2.2.2.1 u.2.2.2.2.2.2.2.2.2.2.2.1 u.2.2.2.2.2.2.2.2.2.2.2.2.1 u.2.2.2.2.2.2.2.2.2.2.2.2.2.1 u.2.2.2.2.2.2.2.2.2.2.2.2.2.2.1 u.2.2.2.2.2.2.2.2.2.2.2.2.2.2.2.1 u.2.2.2.2.2.2.2.2.2.2.2.2.2.2.2.2.1 u.2.2.2.2.2.2.2.2.2.2.2.2.2.2.2.2.2.1 u.2.2.2.2.2.2.2.2.2.2.2.2.2.2.2.2.2.2.1 u.2.2.2.2.2.2.2.2.2.2.2.2.2.2.2.2.2.2.2)) (wl := fun (u : Int32 × Int32 × Int32 × (Nat → Int32) × (Nat → Int32) × (Nat → Int32) × (Nat → Int32) × Int32 × Int32 × (Nat → Int32) × (Nat → Int32) × (Nat → Int32) × Int32 × (Nat → Int32) × (Nat → Int32) × (Nat → Int32) × (Nat → Int32) × (Nat → Int32) × (Nat → Int32) × (Nat → Int32)) => w_Model_build cI cJ cZ a_t a_ends a_there a_one a_two a_what a_piece a_kinds a_group a_many a_pieceOf a_numberOf a_ups a_jointUp a_partner a_beyonds a_gone u.1 made ends there u.2.1 u.2.2.1 u.2.2.2.1 u.2.2.2.2.1 u.2.2.2.2.2.1 u.2.2.2.2.2.2.1 u.2.2.2.2.2.2.2.1 u.2.2.2.2.2.2.2.2.1 u.2.2.2.2.2.2.2.2.2.1 u.2.2.2.2.2.2.2.2.2.2.1 u.2.2.2.2.2.2.2.2.2.2.2.1 u.2.2.2.2.2.2.2.2.2.2.2.2.1 u.2.2.2.2.2.2.2.2.2.2.2.2.2.1 u.2.2.2.2.2.2.2.2.2.2.2.2.2.2.1 u.2.2.2.2.2.2.2.2.2.2.2.2.2.2.2.1 u.2.2.2.2.2.2.2.2.2.2.2.2.2.2.2.2.1 u.2.2.2.2.2.2.2.2.2.2.2.2.2.2.2.2.2.1 u.2.2.2.2.2.2.2.2.2.2.2.2.2.2.2.2.2.2.1 u.2.2.2.2.2.2.2.2.2.2.2.2.2.2.2.2.2.2.2) (y0, y1, y2, y3, y4, y5, y6, y7, y8, y9, y10, y11, y12, y13, y14, y15, y16, y17, y18, y19) hd hp) h)
