abbrev c_Order_findLeastEdges : ByteArray := prog_4_method_3_code
abbrev y_Order_findLeastEdges : MethodName := { cls := "SkeletonTree$Order", name := "findLeastEdges", desc := "(LSkeletonTree$Pieces;)V" }
abbrev c_Order_layRow : ByteArray := prog_4_method_4_code
abbrev y_Order_layRow : MethodName := { cls := "SkeletonTree$Order", name := "layRow", desc := "(LSkeletonTree$Pieces;)V" }
abbrev c_Order_sumUp : ByteArray := prog_4_method_5_code
abbrev y_Order_sumUp : MethodName := { cls := "SkeletonTree$Order", name := "sumUp", desc := "()V" }
abbrev c_Order_numberFor : ByteArray := prog_4_method_6_code
abbrev y_Order_numberFor : MethodName := { cls := "SkeletonTree$Order", name := "numberFor", desc := "(I)I" }
abbrev c_Order_follow : ByteArray := prog_4_method_2_code
abbrev y_Order_follow : MethodName := { cls := "SkeletonTree$Order", name := "follow", desc := "(LSkeletonTree$Pieces;)V" }
theorem g_146 : (Jvm.Cond.fieldLink "SkeletonTree$Order" (24 : Nat) "SkeletonTree$Order" "least" "[I") ∈ GW := gw_of 146 (by decide +kernel) (by decide +kernel)
theorem g_347 : (Jvm.Cond.methodLink "SkeletonTree$Order" (48 : Nat) ({ cls := "java/util/Arrays", name := "fill", desc := "([II)V" } : Jvm.MethodName)) ∈ GW := gw_of 347 (by decide +kernel) (by decide +kernel)
theorem g_106 : (Jvm.Cond.fieldLink "SkeletonTree$Order" (54 : Nat) "SkeletonTree$Pieces" "home" "[I") ∈ GW := gw_of 106 (by decide +kernel) (by decide +kernel)
theorem g_138 : (Jvm.Cond.fieldLink "SkeletonTree$Order" (9 : Nat) "SkeletonTree$Order" "row" "[I") ∈ GW := gw_of 138 (by decide +kernel) (by decide +kernel)
theorem g_140 : (Jvm.Cond.fieldLink "SkeletonTree$Order" (15 : Nat) "SkeletonTree$Order" "above" "[I") ∈ GW := gw_of 140 (by decide +kernel) (by decide +kernel)
theorem g_142 : (Jvm.Cond.fieldLink "SkeletonTree$Order" (18 : Nat) "SkeletonTree$Order" "sideUp" "[I") ∈ GW := gw_of 142 (by decide +kernel) (by decide +kernel)
theorem g_148 : (Jvm.Cond.fieldLink "SkeletonTree$Order" (30 : Nat) "SkeletonTree$Order" "count" "I") ∈ GW := gw_of 148 (by decide +kernel) (by decide +kernel)
theorem g_113 : (Jvm.Cond.fieldLink "SkeletonTree$Order" (59 : Nat) "SkeletonTree$Pieces" "slots" "I") ∈ GW := gw_of 113 (by decide +kernel) (by decide +kernel)
theorem g_354 : (Jvm.Cond.code ({ cls := "SkeletonTree$Pieces", name := "otherSide", desc := "(I)I" } : Jvm.MethodName) prog_5_method_4_code (1 : Nat) (Option.some Jvm.ClassFile.FieldType.int)) ∈ GW := gw_of 354 (by decide +kernel) (by decide +kernel)
theorem g_352 : (Jvm.Cond.methodLink "SkeletonTree$Order" (62 : Nat) ({ cls := "SkeletonTree$Pieces", name := "otherSide", desc := "(I)I" } : Jvm.MethodName)) ∈ GW := gw_of 352 (by decide +kernel) (by decide +kernel)
theorem g_353 : (Jvm.Cond.static ({ cls := "SkeletonTree$Pieces", name := "otherSide", desc := "(I)I" } : Jvm.MethodName)) ∈ GW := gw_of 353 (by decide +kernel) (by decide +kernel)
theorem g_147 : (Jvm.Cond.fieldLink "SkeletonTree$Order" (27 : Nat) "SkeletonTree$Order" "weight" "[I") ∈ GW := gw_of 147 (by decide +kernel) (by decide +kernel)
theorem g_359 : (Jvm.Cond.methodLink "SkeletonTree$Order" (65 : Nat) ({ cls := "java/lang/Math", name := "min", desc := "(II)I" } : Jvm.MethodName)) ∈ GW := gw_of 359 (by decide +kernel) (by decide +kernel)
theorem g_360 : (Jvm.Cond.static ({ cls := "java/lang/Math", name := "min", desc := "(II)I" } : Jvm.MethodName)) ∈ GW := gw_of 360 (by decide +kernel) (by decide +kernel)
theorem g_60 : (Jvm.Cond.initialized "java/lang/Math") ∈ GW := gw_of 60 (by decide +kernel) (by decide +kernel)
theorem g_361 : (Jvm.Cond.code ({ cls := "java/lang/Math", name := "min", desc := "(II)I" } : Jvm.MethodName) prog_13_method_69_code (2 : Nat) (Option.some Jvm.ClassFile.FieldType.int)) ∈ GW := gw_of 361 (by decide +kernel) (by decide +kernel)
theorem g_144 : (Jvm.Cond.fieldLink "SkeletonTree$Order" (21 : Nat) "SkeletonTree$Order" "number" "[I") ∈ GW := gw_of 144 (by decide +kernel) (by decide +kernel)
theorem g_346 : (Jvm.Cond.code ({ cls := "SkeletonTree$Order", name := "findLeastEdges", desc := "(LSkeletonTree$Pieces;)V" } : Jvm.MethodName) prog_4_method_3_code (4 : Nat) (Option.none : Option Jvm.ClassFile.FieldType)) ∈ GW := gw_of 346 (by decide +kernel) (by decide +kernel)
theorem g_343 : (Jvm.Cond.methodLink "SkeletonTree$Order" (34 : Nat) ({ cls := "SkeletonTree$Order", name := "findLeastEdges", desc := "(LSkeletonTree$Pieces;)V" } : Jvm.MethodName)) ∈ GW := gw_of 343 (by decide +kernel) (by decide +kernel)
theorem g_50 : (Jvm.Cond.initialized "SkeletonTree$Order") ∈ GW := gw_of 50 (by decide +kernel) (by decide +kernel)
theorem g_345 : (Jvm.Cond.instanceMethod ({ cls := "SkeletonTree$Order", name := "findLeastEdges", desc := "(LSkeletonTree$Pieces;)V" } : Jvm.MethodName)) ∈ GW := gw_of 345 (by decide +kernel) (by decide +kernel)
theorem g_8 : (Jvm.Cond.selects "SkeletonTree$Order" ({ cls := "SkeletonTree$Order", name := "findLeastEdges", desc := "(LSkeletonTree$Pieces;)V" } : Jvm.MethodName) ({ cls := "SkeletonTree$Order", name := "findLeastEdges", desc := "(LSkeletonTree$Pieces;)V" } : Jvm.MethodName)) ∈ GW := gw_of 8 (by decide +kernel) (by decide +kernel)
theorem g_351 : (Jvm.Cond.code ({ cls := "SkeletonTree$Order", name := "layRow", desc := "(LSkeletonTree$Pieces;)V" } : Jvm.MethodName) prog_4_method_4_code (6 : Nat) (Option.none : Option Jvm.ClassFile.FieldType)) ∈ GW := gw_of 351 (by decide +kernel) (by decide +kernel)
theorem g_348 : (Jvm.Cond.methodLink "SkeletonTree$Order" (38 : Nat) ({ cls := "SkeletonTree$Order", name := "layRow", desc := "(LSkeletonTree$Pieces;)V" } : Jvm.MethodName)) ∈ GW := gw_of 348 (by decide +kernel) (by decide +kernel)
theorem g_350 : (Jvm.Cond.instanceMethod ({ cls := "SkeletonTree$Order", name := "layRow", desc := "(LSkeletonTree$Pieces;)V" } : Jvm.MethodName)) ∈ GW := gw_of 350 (by decide +kernel) (by decide +kernel)
theorem g_9 : (Jvm.Cond.selects "SkeletonTree$Order" ({ cls := "SkeletonTree$Order", name := "layRow", desc := "(LSkeletonTree$Pieces;)V" } : Jvm.MethodName) ({ cls := "SkeletonTree$Order", name := "layRow", desc := "(LSkeletonTree$Pieces;)V" } : Jvm.MethodName)) ∈ GW := gw_of 9 (by decide +kernel) (by decide +kernel)
theorem g_358 : (Jvm.Cond.code ({ cls := "SkeletonTree$Order", name := "sumUp", desc := "()V" } : Jvm.MethodName) prog_4_method_5_code (4 : Nat) (Option.none : Option Jvm.ClassFile.FieldType)) ∈ GW := gw_of 358 (by decide +kernel) (by decide +kernel)
theorem g_355 : (Jvm.Cond.methodLink "SkeletonTree$Order" (41 : Nat) ({ cls := "SkeletonTree$Order", name := "sumUp", desc := "()V" } : Jvm.MethodName)) ∈ GW := gw_of 355 (by decide +kernel) (by decide +kernel)
theorem g_357 : (Jvm.Cond.instanceMethod ({ cls := "SkeletonTree$Order", name := "sumUp", desc := "()V" } : Jvm.MethodName)) ∈ GW := gw_of 357 (by decide +kernel) (by decide +kernel)
theorem g_10 : (Jvm.Cond.selects "SkeletonTree$Order" ({ cls := "SkeletonTree$Order", name := "sumUp", desc := "()V" } : Jvm.MethodName) ({ cls := "SkeletonTree$Order", name := "sumUp", desc := "()V" } : Jvm.MethodName)) ∈ GW := gw_of 10 (by decide +kernel) (by decide +kernel)
theorem g_365 : (Jvm.Cond.code ({ cls := "SkeletonTree$Order", name := "numberFor", desc := "(I)I" } : Jvm.MethodName) prog_4_method_6_code (6 : Nat) (Option.some Jvm.ClassFile.FieldType.int)) ∈ GW := gw_of 365 (by decide +kernel) (by decide +kernel)
theorem g_362 : (Jvm.Cond.methodLink "SkeletonTree$Order" (44 : Nat) ({ cls := "SkeletonTree$Order", name := "numberFor", desc := "(I)I" } : Jvm.MethodName)) ∈ GW := gw_of 362 (by decide +kernel) (by decide +kernel)
theorem g_364 : (Jvm.Cond.instanceMethod ({ cls := "SkeletonTree$Order", name := "numberFor", desc := "(I)I" } : Jvm.MethodName)) ∈ GW := gw_of 364 (by decide +kernel) (by decide +kernel)
theorem g_11 : (Jvm.Cond.selects "SkeletonTree$Order" ({ cls := "SkeletonTree$Order", name := "numberFor", desc := "(I)I" } : Jvm.MethodName) ({ cls := "SkeletonTree$Order", name := "numberFor", desc := "(I)I" } : Jvm.MethodName)) ∈ GW := gw_of 11 (by decide +kernel) (by decide +kernel)
theorem fl_Order_24 : sk_Fl "SkeletonTree$Order" 24 2 4 := ⟨_, _, _, rfl, in_Order, by decide, g_146⟩
theorem fl_Order_54 : sk_Fl "SkeletonTree$Order" 54 3 2 := ⟨_, _, _, rfl, in_Pieces, by decide, g_106⟩
theorem fl_Order_9 : sk_Fl "SkeletonTree$Order" 9 2 0 := ⟨_, _, _, rfl, in_Order, by decide, g_138⟩
theorem fl_Order_15 : sk_Fl "SkeletonTree$Order" 15 2 1 := ⟨_, _, _, rfl, in_Order, by decide, g_140⟩
theorem fl_Order_18 : sk_Fl "SkeletonTree$Order" 18 2 2 := ⟨_, _, _, rfl, in_Order, by decide, g_142⟩
theorem fp_Order_30 : sk_Fp "SkeletonTree$Order" 30 2 6 .int := ⟨_, _, _, t_Order, rfl, in_Order, by decide, g_148, ty_Order, nm_Order, rfl, by decide +kernel⟩
theorem fl_Order_30 : sk_Fl "SkeletonTree$Order" 30 2 6 := ⟨_, _, _, rfl, in_Order, by decide, g_148⟩
theorem fl_Order_59 : sk_Fl "SkeletonTree$Order" 59 3 6 := ⟨_, _, _, rfl, in_Pieces, by decide, g_113⟩
theorem fl_Order_27 : sk_Fl "SkeletonTree$Order" 27 2 5 := ⟨_, _, _, rfl, in_Order, by decide, g_147⟩
theorem fl_Order_21 : sk_Fl "SkeletonTree$Order" 21 2 3 := ⟨_, _, _, rfl, in_Order, by decide, g_144⟩
theorem v_Order_48 : sk_S "SkeletonTree$Order" 48 y_Arrays_fillI c_Arrays_fillI 4 (Option.none : Option Jvm.ClassFile.FieldType) 2 := ⟨g_286, g_347, g_285, g_58, by decide +kernel⟩
theorem v_Order_62 : sk_S "SkeletonTree$Order" 62 y_Pieces_otherSide c_Pieces_otherSide 1 (Option.some Jvm.ClassFile.FieldType.int) 1 := ⟨g_354, g_352, g_353, g_49, by decide +kernel⟩
theorem v_Order_34 : sk_V "SkeletonTree$Order" 34 y_Order_findLeastEdges c_Order_findLeastEdges 4 (Option.none : Option Jvm.ClassFile.FieldType) 1 "SkeletonTree$Order" := ⟨g_346, g_343, g_345, g_8, g_50, by decide +kernel⟩
theorem v_Order_38 : sk_V "SkeletonTree$Order" 38 y_Order_layRow c_Order_layRow 6 (Option.none : Option Jvm.ClassFile.FieldType) 1 "SkeletonTree$Order" := ⟨g_351, g_348, g_350, g_9, g_50, by decide +kernel⟩
theorem v_Order_41 : sk_V "SkeletonTree$Order" 41 y_Order_sumUp c_Order_sumUp 4 (Option.none : Option Jvm.ClassFile.FieldType) 0 "SkeletonTree$Order" := ⟨g_358, g_355, g_357, g_10, g_50, by decide +kernel⟩
theorem v_Order_44 : sk_V "SkeletonTree$Order" 44 y_Order_numberFor c_Order_numberFor 6 (Option.some Jvm.ClassFile.FieldType.int) 1 "SkeletonTree$Order" := ⟨g_365, g_362, g_364, g_11, g_50, by decide +kernel⟩
/-! SkeletonTree$Order.findLeastEdges(LSkeletonTree$Pieces;)V -/
def t_Order_findLeastEdges : List (Nat × Instr × Nat) := [(0, .aload_n 0, 1), (1, .getfield 24, 3), (4, .bipush 100, 2), (6, .invokestatic 48, 3), (9, .bipush 99, 2), (11, .istore_n 2, 1), (12, .iload_n 2, 1), (13, .ifCond .lt 35, 3), (16, .aload_n 1, 1), (17, .getfield 54, 3), (20, .iload_n 2, 1), (21, .iaload, 1), (22, .istore_n 3, 1), (23, .iload_n 3, 1), (24, .iconst (-1), 1), (25, .if_icmp .eq 17, 3), (28, .aload_n 0, 1), (29, .getfield 24, 3), (32, .iload_n 3, 1), (33, .iload_n 2, 1), (34, .iastore, 1), (35, .aload_n 0, 1), (36, .getfield 9, 3), (39, .iconst 0, 1), (40, .iload_n 3, 1), (41, .iastore, 1), (42, .iinc 2 (-1), 3), (45, .goto (-33), 3), (48, .return_, 1)]
set_option maxRecDepth 100000 in
theorem d_Order_findLeastEdges : sk_T c_Order_findLeastEdges t_Order_findLeastEdges := by unfold sk_T t_Order_findLeastEdges; decide +kernel
def w_Order_findLeastEdges (cI cJ cZ : ClassId) (a_t a_row a_above a_sideUp a_number a_least a_weight a_p1 a_p1_firstEnd a_p1_secondEnd a_p1_home a_p1_kindOf a_p1_startAt a_p1_links : Nat) (row : Nat → Int32) (least : Nat → Int32) (count : Int32) (p1_home : Nat → Int32) (p1_slots : Int32) (p1_count : Int32) : va_W := [(a_t, .inr (2, [.ref a_row, .ref a_above, .ref a_sideUp, .ref a_number, .ref a_least, .ref a_weight, .int count])), (a_row, .inl (cI, 98, .inl row)), (a_least, .inl (cI, 98, .inl least)), (a_p1, .inr (3, [.ref a_p1_firstEnd, .ref a_p1_secondEnd, .ref a_p1_home, .ref a_p1_kindOf, .ref a_p1_startAt, .ref a_p1_links, .int p1_slots, .int p1_count])), (a_p1_home, .inl (cI, 294, .inl p1_home))]
def wp_Order_findLeastEdges  (row : Nat → Int32) (least : Nat → Int32) (p1_home : Nat → Int32)  (post : (Nat → Int32) → (Nat → Int32) → Prop) : Prop :=
  wp_Arrays_fillI 98 least 100 (fun least_1 => ∃ n, sL3 (fun (K_5 : Int32 → (Nat → Int32) → (Nat → Int32) → Prop) (i2_2 : Int32) (row_3 : Nat → Int32) (least_4 : Nat → Int32) => (i2_2 < 0 → post row_3 least_4) ∧ (¬ i2_2 < 0 → vp_in i2_2 294 ∧ ((p1_home (ix i2_2)) = (-1) → K_5 (i2_2 + (-1)) row_3 least_4) ∧ (¬ (p1_home (ix i2_2)) = (-1) → vp_in (p1_home (ix i2_2)) 98 ∧ ∀ least_8 : Nat → Int32, least_8 = upd least_4 (ix (p1_home (ix i2_2))) i2_2 → vp_in 0 98 ∧ ∀ row_10 : Nat → Int32, row_10 = upd row_3 (ix 0) (p1_home (ix i2_2)) → K_5 (i2_2 + (-1)) row_10 least_8))) n 99 row least_1)
set_option maxHeartbeats 4000000 in
set_option maxRecDepth 100000 in
theorem bd_Order_findLeastEdges {p : Program} {l : Launch} {e : Env} {R : Room} {s : State} {m : MethodId} {args : Array Value} {below : List Frame} {meth : Method} {c : Code} {D : va_G} {A B : Nat → Prop} {Q : State → Prop} {cI cJ cZ : ClassId} {a_t a_row a_above a_sideUp a_number a_least a_weight a_p1 a_p1_firstEnd a_p1_secondEnd a_p1_home a_p1_kindOf a_p1_startAt a_p1_links : Nat} {row : Nat → Int32} {least : Nat → Int32} {count : Int32} {p1_home : Nat → Int32} {p1_slots : Int32} {p1_count : Int32}  (K : sk_C p s m args meth c c_Order_findLeastEdges 4 "SkeletonTree$Order" D (tyl cI cJ cZ)) (hR1 : 1 ≤ R.frames) (hR2 : 23 ≤ R.locals) (hBA : ∀ q : Nat, B q → A q) {post : (Nat → Int32) → (Nat → Int32) → Prop} (hend : ∀ (ti pc : Nat)  (y0 : Nat → Int32) (y1 : Nat → Int32) (lv : List (Nat × Value)), t_Order_findLeastEdges[ti]? = some (pc, .return_, 1) → post  y0 y1 → AW p l e R s m args below meth c D A B 4 Q 0 0 (w_Order_findLeastEdges cI cJ cZ a_t a_row a_above a_sideUp a_number a_least a_weight a_p1 a_p1_firstEnd a_p1_secondEnd a_p1_home a_p1_kindOf a_p1_startAt a_p1_links y0 y1 count p1_home p1_slots p1_count) lv pc []) (h : wp_Order_findLeastEdges row least p1_home post) : AW p l e R s m args below meth c D A B 4 Q 0 0 (w_Order_findLeastEdges cI cJ cZ a_t a_row a_above a_sideUp a_number a_least a_weight a_p1 a_p1_firstEnd a_p1_secondEnd a_p1_home a_p1_kindOf a_p1_startAt a_p1_links row least count p1_home p1_slots p1_count) [(0, .ref a_t), (1, .ref a_p1)] 0 [] := by
  unfold wp_Order_findLeastEdges at h
  refine A_aload_n K d_Order_findLeastEdges 0 0 (pc' := 1) rfl rfl rfl rfl ?_
  refine A_get K d_Order_findLeastEdges 1 0 fl_Order_24 (pc' := 4) rfl rfl rfl rfl ?_
  refine A_bipush K d_Order_findLeastEdges 2 (pc' := 6) (v := 100) rfl rfl (by decide) ?_
  refine C_Sv1 K hBA d_Order_findLeastEdges 3 [2] [none, none, some 0, none, none] (As := [.ref a_least, .int 100]) (rest := []) (pc' := 9) (wl := fun least_1 => w_Arrays_fillI cI cJ cZ a_least 98 least_1) (ws' := fun least_1 => w_Order_findLeastEdges cI cJ cZ a_t a_row a_above a_sideUp a_number a_least a_weight a_p1 a_p1_firstEnd a_p1_secondEnd a_p1_home a_p1_kindOf a_p1_startAt a_p1_links row least_1 count p1_home p1_slots p1_count) v_Order_48 ⟨rfl, rfl, Nat.le_trans (Nat.le_of_ble_eq_true rfl) hR1, Nat.le_trans (Nat.le_of_ble_eq_true rfl) hR2⟩ (fun sz => met_Arrays_fillI l D cI cJ cZ a_least 98 least 100 _ sz) h rfl rfl rfl rfl rfl (fun _ => rfl) rfl (by decide) (Nat.le_of_ble_eq_true rfl) ⟨Nat.zero_le _, Nat.zero_le _⟩ (fun _ => rfl) (fun least_1 h => ?_)
  refine A_bipush K d_Order_findLeastEdges 4 (pc' := 11) (v := 99) rfl rfl (by decide) ?_
  refine A_istore_n K d_Order_findLeastEdges 5 (pc' := 12) (lv' := [(2, .int 99), (0, .ref a_t), (1, .ref a_p1)]) rfl rfl rfl (by decide) rfl ?_
  refine A_lv [1, 2, 0] rfl ?_
  obtain ⟨n_7, h⟩ := h
  refine sL3_ind (fun (i2_2 : Int32) (row_3 : Nat → Int32) (least_4 : Nat → Int32) => AW p l e R s m args below meth c D A B 4 Q 0 0 (w_Order_findLeastEdges cI cJ cZ a_t a_row a_above a_sideUp a_number a_least a_weight a_p1 a_p1_firstEnd a_p1_secondEnd a_p1_home a_p1_kindOf a_p1_startAt a_p1_links row_3 least_4 count p1_home p1_slots p1_count) [(0, .ref a_t), (1, .ref a_p1), (2, .int i2_2)] 12 []) ?_ n_7 _ _ _ h
  intro K_5 ih_6 i2_2 row_3 least_4 h
  refine A_iload_n K d_Order_findLeastEdges 6 2 (pc' := 13) rfl rfl rfl rfl ?_
  refine A_if_lt K d_Order_findLeastEdges 7 48 (pc' := 16) rfl rfl rfl (fun q => ?_) (fun q => ?_)
  · replace h := h.1 q
    exact hend 28 _ _ _ _ rfl h
  · replace h := h.2 q
    refine A_aload_n K d_Order_findLeastEdges 8 1 (pc' := 17) rfl rfl rfl rfl ?_
    refine A_get K d_Order_findLeastEdges 9 3 fl_Order_54 (pc' := 20) rfl rfl rfl rfl ?_
    refine A_iload_n K d_Order_findLeastEdges 10 2 (pc' := 21) rfl rfl rfl rfl ?_
    refine A_iald K d_Order_findLeastEdges 11 4 0 (pc' := 22) rfl rfl rfl rfl h.1 ?_
    replace h := h.2
    refine A_istore_n K d_Order_findLeastEdges 12 (pc' := 23) (lv' := [(3, .int (p1_home (ix i2_2))), (0, .ref a_t), (1, .ref a_p1), (2, .int i2_2)]) rfl rfl rfl (by decide) rfl ?_
    refine A_iload_n K d_Order_findLeastEdges 13 0 (pc' := 24) rfl rfl rfl rfl ?_
    refine A_iconst K d_Order_findLeastEdges 14 (pc' := 25) (v := (-1)) rfl rfl (by decide) ?_
    refine A_icmp_eq K d_Order_findLeastEdges 15 42 (pc' := 28) rfl rfl rfl (fun q => ?_) (fun q => ?_)
    · replace h := h.1 q
      refine A_iinc K d_Order_findLeastEdges 26 3 (pc' := 45) (v := i2_2 + (-1)) (lv' := [(2, .int (i2_2 + (-1))), (3, .int (p1_home (ix i2_2))), (0, .ref a_t), (1, .ref a_p1)]) rfl rfl rfl rfl (by decide) rfl ?_
      refine A_goto K d_Order_findLeastEdges 27 (pc' := 12) rfl rfl ?_
      refine A_lv [2, 3, 0] rfl ?_
      exact ih_6 _ _ _ h
    · replace h := h.2 q
      refine A_aload_n K d_Order_findLeastEdges 16 1 (pc' := 29) rfl rfl rfl rfl ?_
      refine A_get K d_Order_findLeastEdges 17 0 fl_Order_24 (pc' := 32) rfl rfl rfl rfl ?_
      refine A_iload_n K d_Order_findLeastEdges 18 0 (pc' := 33) rfl rfl rfl rfl ?_
      refine A_iload_n K d_Order_findLeastEdges 19 3 (pc' := 34) rfl rfl rfl rfl ?_
      refine A_iastN K hBA d_Order_findLeastEdges 20 2 0 (pc' := 35) (ws' := fun least_8 => w_Order_findLeastEdges cI cJ cZ a_t a_row a_above a_sideUp a_number a_least a_weight a_p1 a_p1_firstEnd a_p1_secondEnd a_p1_home a_p1_kindOf a_p1_startAt a_p1_links row_3 least_8 count p1_home p1_slots p1_count) rfl rfl rfl rfl h.1 (fun _ => rfl) (fun least_8 e_9 => ?_)
      replace h := h.2 least_8 e_9
      refine A_aload_n K d_Order_findLeastEdges 21 1 (pc' := 36) rfl rfl rfl rfl ?_
      refine A_get K d_Order_findLeastEdges 22 0 fl_Order_9 (pc' := 39) rfl rfl rfl rfl ?_
      refine A_iconst K d_Order_findLeastEdges 23 (pc' := 40) (v := 0) rfl rfl (by decide) ?_
      refine A_iload_n K d_Order_findLeastEdges 24 0 (pc' := 41) rfl rfl rfl rfl ?_
      refine A_iastN K hBA d_Order_findLeastEdges 25 1 0 (pc' := 42) (ws' := fun row_10 => w_Order_findLeastEdges cI cJ cZ a_t a_row a_above a_sideUp a_number a_least a_weight a_p1 a_p1_firstEnd a_p1_secondEnd a_p1_home a_p1_kindOf a_p1_startAt a_p1_links row_10 least_8 count p1_home p1_slots p1_count) rfl rfl rfl rfl h.1 (fun _ => rfl) (fun row_10 e_11 => ?_)
      replace h := h.2 row_10 e_11
      refine A_iinc K d_Order_findLeastEdges 26 3 (pc' := 45) (v := i2_2 + (-1)) (lv' := [(2, .int (i2_2 + (-1))), (3, .int (p1_home (ix i2_2))), (0, .ref a_t), (1, .ref a_p1)]) rfl rfl rfl rfl (by decide) rfl ?_
      refine A_goto K d_Order_findLeastEdges 27 (pc' := 12) rfl rfl ?_
      refine A_lv [2, 3, 0] rfl ?_
      exact ih_6 _ _ _ h
theorem met_Order_findLeastEdges (l : Launch) (D : va_G) (cI cJ cZ : ClassId) (a_t a_row a_above a_sideUp a_number a_least a_weight a_p1 a_p1_firstEnd a_p1_secondEnd a_p1_home a_p1_kindOf a_p1_startAt a_p1_links : Nat) (row : Nat → Int32) (least : Nat → Int32) (count : Int32) (p1_home : Nat → Int32) (p1_slots : Int32) (p1_count : Int32)  (post : (Nat → Int32) → (Nat → Int32) → Prop) (sz : Nat) : Met l y_Order_findLeastEdges (Cond.code y_Order_findLeastEdges c_Order_findLeastEdges 4 (Option.none : Option Jvm.ClassFile.FieldType) :: GW) { frames := 1, cells := 0, slots := 0, locals := 23 } (va_Pc [.ref a_t, .ref a_p1] (fun U => sk_P D (tyl cI cJ cZ) (w_Order_findLeastEdges cI cJ cZ a_t a_row a_above a_sideUp a_number a_least a_weight a_p1 a_p1_firstEnd a_p1_secondEnd a_p1_home a_p1_kindOf a_p1_startAt a_p1_links row least count p1_home p1_slots p1_count) sz U ∧ wp_Order_findLeastEdges row least p1_home post)) (va_Qv (fun (u : (Nat → Int32) × (Nat → Int32)) => post  u.1 u.2) (fun u t => sk_B D (tyl cI cJ cZ) (w_Order_findLeastEdges cI cJ cZ a_t a_row a_above a_sideUp a_number a_least a_weight a_p1 a_p1_firstEnd a_p1_secondEnd a_p1_home a_p1_kindOf a_p1_startAt a_p1_links u.1 u.2 count p1_home p1_slots p1_count) (va_A (w_Order_findLeastEdges cI cJ cZ a_t a_row a_above a_sideUp a_number a_least a_weight a_p1 a_p1_firstEnd a_p1_secondEnd a_p1_home a_p1_kindOf a_p1_startAt a_p1_links row least count p1_home p1_slots p1_count) sz) t) (va_A (w_Order_findLeastEdges cI cJ cZ a_t a_row a_above a_sideUp a_number a_least a_weight a_p1 a_p1_firstEnd a_p1_secondEnd a_p1_home a_p1_kindOf a_p1_startAt a_p1_links row least count p1_home p1_slots p1_count) sz)) 0 0 (va_A (w_Order_findLeastEdges cI cJ cZ a_t a_row a_above a_sideUp a_number a_least a_weight a_p1 a_p1_firstEnd a_p1_secondEnd a_p1_home a_p1_kindOf a_p1_startAt a_p1_links row least count p1_home p1_slots p1_count) sz) :=
  sk_intro (by decide) (Nat.le_of_ble_eq_true rfl) (fun p e s m below meth c K hr _ h => bd_Order_findLeastEdges K (Nat.le_refl _) (Nat.le_refl _) (fun _ z => z) (fun ti pc y0 y1 lv hd hp => A_vret K d_Order_findLeastEdges ti hr (post := (fun (u : (Nat → Int32) × (Nat → Int32)) => post  u.1 u.2)) (wl := fun (u : (Nat → Int32) × (Nat → Int32)) => w_Order_findLeastEdges cI cJ cZ a_t a_row a_above a_sideUp a_number a_least a_weight a_p1 a_p1_firstEnd a_p1_secondEnd a_p1_home a_p1_kindOf a_p1_startAt a_p1_links u.1 u.2 count p1_home p1_slots p1_count) (y0, y1) hd hp) h)
/-! SkeletonTree$Order.layRow(LSkeletonTree$Pieces;)V -/
def t_Order_layRow : List (Nat × Instr × Nat) := [(0, .aload_n 0, 1), (1, .getfield 15, 3), (4, .aload_n 0, 1), (5, .getfield 9, 3), (8, .iconst 0, 1), (9, .iaload, 1), (10, .iconst (-1), 1), (11, .iastore, 1), (12, .aload_n 0, 1), (13, .getfield 18, 3), (16, .aload_n 0, 1), (17, .getfield 9, 3), (20, .iconst 0, 1), (21, .iaload, 1), (22, .iconst (-1), 1), (23, .iastore, 1), (24, .aload_n 0, 1), (25, .iconst 1, 1), (26, .putfield 30, 3), (29, .iconst 0, 1), (30, .istore_n 2, 1), (31, .iload_n 2, 1), (32, .bipush 98, 2), (34, .if_icmp .ge 131, 3), (37, .iload_n 2, 1), (38, .aload_n 0, 1), (39, .getfield 30, 3), (42, .if_icmp .ge 123, 3), (45, .bipush 100, 2), (47, .istore_n 3, 1), (48, .iload_n 3, 1), (49, .aload_n 1, 1), (50, .getfield 59, 3), (53, .if_icmp .ge 106, 3), (56, .aload_n 1, 1), (57, .getfield 54, 3), (60, .iload_n 3, 1), (61, .iaload, 1), (62, .aload_n 0, 1), (63, .getfield 9, 3), (66, .iload_n 2, 1), (67, .iaload, 1), (68, .if_icmp .ne 85, 3), (71, .iload_n 3, 1), (72, .aload_n 0, 1), (73, .getfield 18, 3), (76, .aload_n 0, 1), (77, .getfield 9, 3), (80, .iload_n 2, 1), (81, .iaload, 1), (82, .iaload, 1), (83, .if_icmp .eq 70, 3), (86, .aload_n 0, 1), (87, .getfield 30, 3), (90, .bipush 98, 2), (92, .if_icmp .ge 61, 3), (95, .iload_n 3, 1), (96, .invokestatic 62, 3), (99, .istore 4, 2), (101, .aload_n 1, 1), (102, .getfield 54, 3), (105, .iload 4, 2), (107, .iaload, 1), (108, .istore 5, 2), (110, .aload_n 0, 1), (111, .getfield 15, 3), (114, .iload 5, 2), (116, .aload_n 0, 1), (117, .getfield 9, 3), (120, .iload_n 2, 1), (121, .iaload, 1), (122, .iastore, 1), (123, .aload_n 0, 1), (124, .getfield 18, 3), (127, .iload 5, 2), (129, .iload 4, 2), (131, .iastore, 1), (132, .aload_n 0, 1), (133, .getfield 9, 3), (136, .aload_n 0, 1), (137, .getfield 30, 3), (140, .iload 5, 2), (142, .iastore, 1), (143, .aload_n 0, 1), (144, .dup, 1), (145, .getfield 30, 3), (148, .iconst 1, 1), (149, .iadd, 1), (150, .putfield 30, 3), (153, .iinc 3 1, 3), (156, .goto (-108), 3), (159, .iinc 2 1, 3), (162, .goto (-131), 3), (165, .return_, 1)]
set_option maxRecDepth 100000 in
theorem d_Order_layRow : sk_T c_Order_layRow t_Order_layRow := by unfold sk_T t_Order_layRow; decide +kernel
def w_Order_layRow (cI cJ cZ : ClassId) (a_t a_row a_above a_sideUp a_number a_least a_weight a_p1 a_p1_firstEnd a_p1_secondEnd a_p1_home a_p1_kindOf a_p1_startAt a_p1_links : Nat) (row : Nat → Int32) (above : Nat → Int32) (sideUp : Nat → Int32) (count : Int32) (p1_home : Nat → Int32) (p1_slots : Int32) (p1_count : Int32) : va_W := [(a_t, .inr (2, [.ref a_row, .ref a_above, .ref a_sideUp, .ref a_number, .ref a_least, .ref a_weight, .int count])), (a_row, .inl (cI, 98, .inl row)), (a_above, .inl (cI, 98, .inl above)), (a_sideUp, .inl (cI, 98, .inl sideUp)), (a_p1, .inr (3, [.ref a_p1_firstEnd, .ref a_p1_secondEnd, .ref a_p1_home, .ref a_p1_kindOf, .ref a_p1_startAt, .ref a_p1_links, .int p1_slots, .int p1_count])), (a_p1_home, .inl (cI, 294, .inl p1_home))]
def wp_Order_layRow  (row : Nat → Int32) (above : Nat → Int32) (sideUp : Nat → Int32) (count : Int32) (p1_home : Nat → Int32) (p1_slots : Int32)  (post : (Nat → Int32) → (Nat → Int32) → (Nat → Int32) → Int32 → Prop) : Prop :=
  vp_in 0 98 ∧ vp_in (row (ix 0)) 98 ∧ ∀ above_1 : Nat → Int32, above_1 = upd above (ix (row (ix 0))) (-1) → vp_in 0 98 ∧ vp_in (row (ix 0)) 98 ∧ ∀ sideUp_3 : Nat → Int32, sideUp_3 = upd sideUp (ix (row (ix 0))) (-1) → ∃ n, sL5 (fun (K_10 : Int32 → (Nat → Int32) → (Nat → Int32) → (Nat → Int32) → Int32 → Prop) (i2_5 : Int32) (row_6 : Nat → Int32) (above_7 : Nat → Int32) (sideUp_8 : Nat → Int32) (count_9 : Int32) => (98 ≤ i2_5 → post row_6 above_7 sideUp_8 count_9) ∧ (¬ 98 ≤ i2_5 → (count_9 ≤ i2_5 → post row_6 above_7 sideUp_8 count_9) ∧ (¬ count_9 ≤ i2_5 → ∃ n, sL5 (fun (K_18 : Int32 → (Nat → Int32) → (Nat → Int32) → (Nat → Int32) → Int32 → Prop) (i3_13 : Int32) (row_14 : Nat → Int32) (above_15 : Nat → Int32) (sideUp_16 : Nat → Int32) (count_17 : Int32) => (p1_slots ≤ i3_13 → K_10 (i2_5 + 1) row_14 above_15 sideUp_16 count_17) ∧ (¬ p1_slots ≤ i3_13 → vp_in i3_13 294 ∧ vp_in i2_5 98 ∧ (¬ (p1_home (ix i3_13)) = (row_14 (ix i2_5)) → K_18 (i3_13 + 1) row_14 above_15 sideUp_16 count_17) ∧ ((p1_home (ix i3_13)) = (row_14 (ix i2_5)) → vp_in i2_5 98 ∧ vp_in (row_14 (ix i2_5)) 98 ∧ ∀ x_21 : Int32, x_21 = sideUp_16 (ix (row_14 (ix i2_5))) → (i3_13 = x_21 → K_18 (i3_13 + 1) row_14 above_15 sideUp_16 count_17) ∧ (¬ i3_13 = x_21 → (98 ≤ count_17 → K_18 (i3_13 + 1) row_14 above_15 sideUp_16 count_17) ∧ (¬ 98 ≤ count_17 → wp_Pieces_otherSide i3_13 (fun r_23 => vp_in r_23 294 ∧ vp_in i2_5 98 ∧ vp_in (p1_home (ix r_23)) 98 ∧ ∀ above_24 : Nat → Int32, above_24 = upd above_15 (ix (p1_home (ix r_23))) (row_14 (ix i2_5)) → vp_in (p1_home (ix r_23)) 98 ∧ ∀ sideUp_26 : Nat → Int32, sideUp_26 = upd sideUp_16 (ix (p1_home (ix r_23))) r_23 → vp_in count_17 98 ∧ ∀ row_28 : Nat → Int32, row_28 = upd row_14 (ix count_17) (p1_home (ix r_23)) → K_18 (i3_13 + 1) row_28 above_24 sideUp_26 (count_17 + 1))))))) n 100 row_6 above_7 sideUp_8 count_9))) n 0 row above_1 sideUp_3 1
set_option maxHeartbeats 4000000 in
set_option maxRecDepth 100000 in
theorem bd_Order_layRow {p : Program} {l : Launch} {e : Env} {R : Room} {s : State} {m : MethodId} {args : Array Value} {below : List Frame} {meth : Method} {c : Code} {D : va_G} {A B : Nat → Prop} {Q : State → Prop} {cI cJ cZ : ClassId} {a_t a_row a_above a_sideUp a_number a_least a_weight a_p1 a_p1_firstEnd a_p1_secondEnd a_p1_home a_p1_kindOf a_p1_startAt a_p1_links : Nat} {row : Nat → Int32} {above : Nat → Int32} {sideUp : Nat → Int32} {count : Int32} {p1_home : Nat → Int32} {p1_slots : Int32} {p1_count : Int32}  (K : sk_C p s m args meth c c_Order_layRow 6 "SkeletonTree$Order" D (tyl cI cJ cZ)) (hR1 : 1 ≤ R.frames) (hR2 : 20 ≤ R.locals) (hBA : ∀ q : Nat, B q → A q) {post : (Nat → Int32) → (Nat → Int32) → (Nat → Int32) → Int32 → Prop} (hend : ∀ (ti pc : Nat)  (y0 : Nat → Int32) (y1 : Nat → Int32) (y2 : Nat → Int32) (y3 : Int32) (lv : List (Nat × Value)), t_Order_layRow[ti]? = some (pc, .return_, 1) → post  y0 y1 y2 y3 → AW p l e R s m args below meth c D A B 6 Q 0 0 (w_Order_layRow cI cJ cZ a_t a_row a_above a_sideUp a_number a_least a_weight a_p1 a_p1_firstEnd a_p1_secondEnd a_p1_home a_p1_kindOf a_p1_startAt a_p1_links y0 y1 y2 y3 p1_home p1_slots p1_count) lv pc []) (h : wp_Order_layRow row above sideUp count p1_home p1_slots post) : AW p l e R s m args below meth c D A B 6 Q 0 0 (w_Order_layRow cI cJ cZ a_t a_row a_above a_sideUp a_number a_least a_weight a_p1 a_p1_firstEnd a_p1_secondEnd a_p1_home a_p1_kindOf a_p1_startAt a_p1_links row above sideUp count p1_home p1_slots p1_count) [(0, .ref a_t), (1, .ref a_p1)] 0 [] := by
  unfold wp_Order_layRow at h
  refine A_aload_n K d_Order_layRow 0 0 (pc' := 1) rfl rfl rfl rfl ?_
  refine A_get K d_Order_layRow 1 0 fl_Order_15 (pc' := 4) rfl rfl rfl rfl ?_
  refine A_aload_n K d_Order_layRow 2 0 (pc' := 5) rfl rfl rfl rfl ?_
  refine A_get K d_Order_layRow 3 0 fl_Order_9 (pc' := 8) rfl rfl rfl rfl ?_
  refine A_iconst K d_Order_layRow 4 (pc' := 9) (v := 0) rfl rfl (by decide) ?_
  refine A_iald K d_Order_layRow 5 1 0 (pc' := 10) rfl rfl rfl rfl h.1 ?_
  replace h := h.2
  refine A_iconst K d_Order_layRow 6 (pc' := 11) (v := (-1)) rfl rfl (by decide) ?_
  refine A_iastN K hBA d_Order_layRow 7 2 0 (pc' := 12) (ws' := fun above_1 => w_Order_layRow cI cJ cZ a_t a_row a_above a_sideUp a_number a_least a_weight a_p1 a_p1_firstEnd a_p1_secondEnd a_p1_home a_p1_kindOf a_p1_startAt a_p1_links row above_1 sideUp count p1_home p1_slots p1_count) rfl rfl rfl rfl h.1 (fun _ => rfl) (fun above_1 e_2 => ?_)
  replace h := h.2 above_1 e_2
  refine A_aload_n K d_Order_layRow 8 0 (pc' := 13) rfl rfl rfl rfl ?_
  refine A_get K d_Order_layRow 9 0 fl_Order_18 (pc' := 16) rfl rfl rfl rfl ?_
  refine A_aload_n K d_Order_layRow 10 0 (pc' := 17) rfl rfl rfl rfl ?_
  refine A_get K d_Order_layRow 11 0 fl_Order_9 (pc' := 20) rfl rfl rfl rfl ?_
  refine A_iconst K d_Order_layRow 12 (pc' := 21) (v := 0) rfl rfl (by decide) ?_
  refine A_iald K d_Order_layRow 13 1 0 (pc' := 22) rfl rfl rfl rfl h.1 ?_
  replace h := h.2
  refine A_iconst K d_Order_layRow 14 (pc' := 23) (v := (-1)) rfl rfl (by decide) ?_
  refine A_iastN K hBA d_Order_layRow 15 3 0 (pc' := 24) (ws' := fun sideUp_3 => w_Order_layRow cI cJ cZ a_t a_row a_above a_sideUp a_number a_least a_weight a_p1 a_p1_firstEnd a_p1_secondEnd a_p1_home a_p1_kindOf a_p1_startAt a_p1_links row above_1 sideUp_3 count p1_home p1_slots p1_count) rfl rfl rfl rfl h.1 (fun _ => rfl) (fun sideUp_3 e_4 => ?_)
  replace h := h.2 sideUp_3 e_4
  refine A_aload_n K d_Order_layRow 16 0 (pc' := 25) rfl rfl rfl rfl ?_
  refine A_iconst K d_Order_layRow 17 (pc' := 26) (v := 1) rfl rfl (by decide) ?_
  refine A_put K hBA d_Order_layRow 18 0 fp_Order_30 (pc' := 29) (ws' := w_Order_layRow cI cJ cZ a_t a_row a_above a_sideUp a_number a_least a_weight a_p1 a_p1_firstEnd a_p1_secondEnd a_p1_home a_p1_kindOf a_p1_startAt a_p1_links row above_1 sideUp_3 1 p1_home p1_slots p1_count) rfl rfl rfl (Nat.le_of_ble_eq_true rfl) rfl rfl rfl ?_
  refine A_iconst K d_Order_layRow 19 (pc' := 30) (v := 0) rfl rfl (by decide) ?_
  refine A_istore_n K d_Order_layRow 20 (pc' := 31) (lv' := [(2, .int 0), (0, .ref a_t), (1, .ref a_p1)]) rfl rfl rfl (by decide) rfl ?_
  refine A_lv [1, 2, 0] rfl ?_
  obtain ⟨n_12, h⟩ := h
  refine sL5_ind (fun (i2_5 : Int32) (row_6 : Nat → Int32) (above_7 : Nat → Int32) (sideUp_8 : Nat → Int32) (count_9 : Int32) => AW p l e R s m args below meth c D A B 6 Q 0 0 (w_Order_layRow cI cJ cZ a_t a_row a_above a_sideUp a_number a_least a_weight a_p1 a_p1_firstEnd a_p1_secondEnd a_p1_home a_p1_kindOf a_p1_startAt a_p1_links row_6 above_7 sideUp_8 count_9 p1_home p1_slots p1_count) [(0, .ref a_t), (1, .ref a_p1), (2, .int i2_5)] 31 []) ?_ n_12 _ _ _ _ _ h
  intro K_10 ih_11 i2_5 row_6 above_7 sideUp_8 count_9 h
  refine A_iload_n K d_Order_layRow 21 2 (pc' := 32) rfl rfl rfl rfl ?_
  refine A_bipush K d_Order_layRow 22 (pc' := 34) (v := 98) rfl rfl (by decide) ?_
  refine A_icmp_ge K d_Order_layRow 23 165 (pc' := 37) rfl rfl rfl (fun q => ?_) (fun q => ?_)
  · replace h := h.1 q
    exact hend 93 _ _ _ _ _ _ rfl h
  · replace h := h.2 q
    refine A_iload_n K d_Order_layRow 24 2 (pc' := 38) rfl rfl rfl rfl ?_
    refine A_aload_n K d_Order_layRow 25 0 (pc' := 39) rfl rfl rfl rfl ?_
    refine A_get K d_Order_layRow 26 0 fl_Order_30 (pc' := 42) rfl rfl rfl rfl ?_
    refine A_icmp_ge K d_Order_layRow 27 165 (pc' := 45) rfl rfl rfl (fun q => ?_) (fun q => ?_)
    · replace h := h.1 q
      exact hend 93 _ _ _ _ _ _ rfl h
    · replace h := h.2 q
      refine A_bipush K d_Order_layRow 28 (pc' := 47) (v := 100) rfl rfl (by decide) ?_
      refine A_istore_n K d_Order_layRow 29 (pc' := 48) (lv' := [(3, .int 100), (0, .ref a_t), (1, .ref a_p1), (2, .int i2_5)]) rfl rfl rfl (by decide) rfl ?_
      refine A_lv [1, 2, 3, 0] rfl ?_
      obtain ⟨n_20, h⟩ := h
      refine sL5_ind (fun (i3_13 : Int32) (row_14 : Nat → Int32) (above_15 : Nat → Int32) (sideUp_16 : Nat → Int32) (count_17 : Int32) => AW p l e R s m args below meth c D A B 6 Q 0 0 (w_Order_layRow cI cJ cZ a_t a_row a_above a_sideUp a_number a_least a_weight a_p1 a_p1_firstEnd a_p1_secondEnd a_p1_home a_p1_kindOf a_p1_startAt a_p1_links row_14 above_15 sideUp_16 count_17 p1_home p1_slots p1_count) [(0, .ref a_t), (1, .ref a_p1), (2, .int i2_5), (3, .int i3_13)] 48 []) ?_ n_20 _ _ _ _ _ h
      intro K_18 ih_19 i3_13 row_14 above_15 sideUp_16 count_17 h
      refine A_iload_n K d_Order_layRow 30 3 (pc' := 49) rfl rfl rfl rfl ?_
      refine A_aload_n K d_Order_layRow 31 1 (pc' := 50) rfl rfl rfl rfl ?_
      refine A_get K d_Order_layRow 32 4 fl_Order_59 (pc' := 53) rfl rfl rfl rfl ?_
      refine A_icmp_ge K d_Order_layRow 33 159 (pc' := 56) rfl rfl rfl (fun q => ?_) (fun q => ?_)
      · replace h := h.1 q
        refine A_iinc K d_Order_layRow 91 2 (pc' := 162) (v := i2_5 + 1) (lv' := [(2, .int (i2_5 + 1)), (0, .ref a_t), (1, .ref a_p1), (3, .int i3_13)]) rfl rfl rfl rfl (by decide) rfl ?_
        refine A_goto K d_Order_layRow 92 (pc' := 31) rfl rfl ?_
        refine A_lv [1, 2, 0] rfl ?_
        exact ih_11 _ _ _ _ _ h
      · replace h := h.2 q
        refine A_aload_n K d_Order_layRow 34 1 (pc' := 57) rfl rfl rfl rfl ?_
        refine A_get K d_Order_layRow 35 4 fl_Order_54 (pc' := 60) rfl rfl rfl rfl ?_
        refine A_iload_n K d_Order_layRow 36 3 (pc' := 61) rfl rfl rfl rfl ?_
        refine A_iald K d_Order_layRow 37 5 0 (pc' := 62) rfl rfl rfl rfl h.1 ?_
        replace h := h.2
        refine A_aload_n K d_Order_layRow 38 0 (pc' := 63) rfl rfl rfl rfl ?_
        refine A_get K d_Order_layRow 39 0 fl_Order_9 (pc' := 66) rfl rfl rfl rfl ?_
        refine A_iload_n K d_Order_layRow 40 2 (pc' := 67) rfl rfl rfl rfl ?_
        refine A_iald K d_Order_layRow 41 1 0 (pc' := 68) rfl rfl rfl rfl h.1 ?_
        replace h := h.2
        refine A_icmp_ne K d_Order_layRow 42 153 (pc' := 71) rfl rfl rfl (fun q => ?_) (fun q => ?_)
        · replace h := h.1 q
          refine A_iinc K d_Order_layRow 89 3 (pc' := 156) (v := i3_13 + 1) (lv' := [(3, .int (i3_13 + 1)), (0, .ref a_t), (1, .ref a_p1), (2, .int i2_5)]) rfl rfl rfl rfl (by decide) rfl ?_
          refine A_goto K d_Order_layRow 90 (pc' := 48) rfl rfl ?_
          refine A_lv [1, 2, 3, 0] rfl ?_
          exact ih_19 _ _ _ _ _ h
        · replace h := h.2 q
          refine A_iload_n K d_Order_layRow 43 3 (pc' := 72) rfl rfl rfl rfl ?_
          refine A_aload_n K d_Order_layRow 44 0 (pc' := 73) rfl rfl rfl rfl ?_
          refine A_get K d_Order_layRow 45 0 fl_Order_18 (pc' := 76) rfl rfl rfl rfl ?_
          refine A_aload_n K d_Order_layRow 46 0 (pc' := 77) rfl rfl rfl rfl ?_
          refine A_get K d_Order_layRow 47 0 fl_Order_9 (pc' := 80) rfl rfl rfl rfl ?_
          refine A_iload_n K d_Order_layRow 48 2 (pc' := 81) rfl rfl rfl rfl ?_
          refine A_iald K d_Order_layRow 49 1 0 (pc' := 82) rfl rfl rfl rfl h.1 ?_
          replace h := h.2
          refine A_iald K d_Order_layRow 50 3 0 (pc' := 83) rfl rfl rfl rfl h.1 ?_
          replace h := h.2
          refine A_topi (fun x_21 e_22 => ?_)
          replace h := h x_21 e_22
          refine A_icmp_eq K d_Order_layRow 51 153 (pc' := 86) rfl rfl rfl (fun q => ?_) (fun q => ?_)
          · replace h := h.1 q
            refine A_iinc K d_Order_layRow 89 3 (pc' := 156) (v := i3_13 + 1) (lv' := [(3, .int (i3_13 + 1)), (0, .ref a_t), (1, .ref a_p1), (2, .int i2_5)]) rfl rfl rfl rfl (by decide) rfl ?_
            refine A_goto K d_Order_layRow 90 (pc' := 48) rfl rfl ?_
            refine A_lv [1, 2, 3, 0] rfl ?_
            exact ih_19 _ _ _ _ _ h
          · replace h := h.2 q
            refine A_aload_n K d_Order_layRow 52 0 (pc' := 87) rfl rfl rfl rfl ?_
            refine A_get K d_Order_layRow 53 0 fl_Order_30 (pc' := 90) rfl rfl rfl rfl ?_
            refine A_bipush K d_Order_layRow 54 (pc' := 92) (v := 98) rfl rfl (by decide) ?_
            refine A_icmp_ge K d_Order_layRow 55 153 (pc' := 95) rfl rfl rfl (fun q => ?_) (fun q => ?_)
            · replace h := h.1 q
              refine A_iinc K d_Order_layRow 89 3 (pc' := 156) (v := i3_13 + 1) (lv' := [(3, .int (i3_13 + 1)), (0, .ref a_t), (1, .ref a_p1), (2, .int i2_5)]) rfl rfl rfl rfl (by decide) rfl ?_
              refine A_goto K d_Order_layRow 90 (pc' := 48) rfl rfl ?_
              refine A_lv [1, 2, 3, 0] rfl ?_
              exact ih_19 _ _ _ _ _ h
            · replace h := h.2 q
              refine A_iload_n K d_Order_layRow 56 3 (pc' := 96) rfl rfl rfl rfl ?_
              refine R_callS_i K d_Order_layRow 57 [] (As := [.int i3_13]) (rest := []) (pc' := 99) v_Order_62 ⟨rfl, rfl, Nat.le_trans (Nat.le_of_ble_eq_true rfl) hR1, Nat.le_trans (Nat.le_of_ble_eq_true rfl) hR2⟩ (fun sz => met_Pieces_otherSide l D cI cJ cZ i3_13 _ sz) h rfl rfl rfl rfl rfl rfl (Nat.le_of_ble_eq_true rfl) ⟨Nat.zero_le _, Nat.zero_le _⟩ (fun r_23 h => ?_)
              refine A_istore K d_Order_layRow 58 (pc' := 101) (lv' := [(4, .int r_23), (0, .ref a_t), (1, .ref a_p1), (2, .int i2_5), (3, .int i3_13)]) rfl rfl (by decide) rfl ?_
              refine A_aload_n K d_Order_layRow 59 2 (pc' := 102) rfl rfl rfl rfl ?_
              refine A_get K d_Order_layRow 60 4 fl_Order_54 (pc' := 105) rfl rfl rfl rfl ?_
              refine A_iload K d_Order_layRow 61 0 (pc' := 107) rfl rfl rfl ?_
              refine A_iald K d_Order_layRow 62 5 0 (pc' := 108) rfl rfl rfl rfl h.1 ?_
              replace h := h.2
              refine A_istore K d_Order_layRow 63 (pc' := 110) (lv' := [(5, .int (p1_home (ix r_23))), (4, .int r_23), (0, .ref a_t), (1, .ref a_p1), (2, .int i2_5), (3, .int i3_13)]) rfl rfl (by decide) rfl ?_
              refine A_aload_n K d_Order_layRow 64 2 (pc' := 111) rfl rfl rfl rfl ?_
              refine A_get K d_Order_layRow 65 0 fl_Order_15 (pc' := 114) rfl rfl rfl rfl ?_
              refine A_iload K d_Order_layRow 66 0 (pc' := 116) rfl rfl rfl ?_
              refine A_aload_n K d_Order_layRow 67 2 (pc' := 117) rfl rfl rfl rfl ?_
              refine A_get K d_Order_layRow 68 0 fl_Order_9 (pc' := 120) rfl rfl rfl rfl ?_
              refine A_iload_n K d_Order_layRow 69 4 (pc' := 121) rfl rfl rfl rfl ?_
              refine A_iald K d_Order_layRow 70 1 0 (pc' := 122) rfl rfl rfl rfl h.1 ?_
              replace h := h.2
              refine A_iastN K hBA d_Order_layRow 71 2 0 (pc' := 123) (ws' := fun above_24 => w_Order_layRow cI cJ cZ a_t a_row a_above a_sideUp a_number a_least a_weight a_p1 a_p1_firstEnd a_p1_secondEnd a_p1_home a_p1_kindOf a_p1_startAt a_p1_links row_14 above_24 sideUp_16 count_17 p1_home p1_slots p1_count) rfl rfl rfl rfl h.1 (fun _ => rfl) (fun above_24 e_25 => ?_)
              replace h := h.2 above_24 e_25
              refine A_aload_n K d_Order_layRow 72 2 (pc' := 124) rfl rfl rfl rfl ?_
              refine A_get K d_Order_layRow 73 0 fl_Order_18 (pc' := 127) rfl rfl rfl rfl ?_
              refine A_iload K d_Order_layRow 74 0 (pc' := 129) rfl rfl rfl ?_
              refine A_iload K d_Order_layRow 75 1 (pc' := 131) rfl rfl rfl ?_
              refine A_iastN K hBA d_Order_layRow 76 3 0 (pc' := 132) (ws' := fun sideUp_26 => w_Order_layRow cI cJ cZ a_t a_row a_above a_sideUp a_number a_least a_weight a_p1 a_p1_firstEnd a_p1_secondEnd a_p1_home a_p1_kindOf a_p1_startAt a_p1_links row_14 above_24 sideUp_26 count_17 p1_home p1_slots p1_count) rfl rfl rfl rfl h.1 (fun _ => rfl) (fun sideUp_26 e_27 => ?_)
              replace h := h.2 sideUp_26 e_27
              refine A_aload_n K d_Order_layRow 77 2 (pc' := 133) rfl rfl rfl rfl ?_
              refine A_get K d_Order_layRow 78 0 fl_Order_9 (pc' := 136) rfl rfl rfl rfl ?_
              refine A_aload_n K d_Order_layRow 79 2 (pc' := 137) rfl rfl rfl rfl ?_
              refine A_get K d_Order_layRow 80 0 fl_Order_30 (pc' := 140) rfl rfl rfl rfl ?_
              refine A_iload K d_Order_layRow 81 0 (pc' := 142) rfl rfl rfl ?_
              refine A_iastN K hBA d_Order_layRow 82 1 0 (pc' := 143) (ws' := fun row_28 => w_Order_layRow cI cJ cZ a_t a_row a_above a_sideUp a_number a_least a_weight a_p1 a_p1_firstEnd a_p1_secondEnd a_p1_home a_p1_kindOf a_p1_startAt a_p1_links row_28 above_24 sideUp_26 count_17 p1_home p1_slots p1_count) rfl rfl rfl rfl h.1 (fun _ => rfl) (fun row_28 e_29 => ?_)
              replace h := h.2 row_28 e_29
              refine A_aload_n K d_Order_layRow 83 2 (pc' := 144) rfl rfl rfl rfl ?_
              refine A_dup K d_Order_layRow 84 (pc' := 145) rfl rfl rfl ?_
              refine A_get K d_Order_layRow 85 0 fl_Order_30 (pc' := 148) rfl rfl rfl rfl ?_
              refine A_iconst K d_Order_layRow 86 (pc' := 149) (v := 1) rfl rfl (by decide) ?_
              refine A_iadd K d_Order_layRow 87 (pc' := 150) rfl rfl ?_
              refine A_put K hBA d_Order_layRow 88 0 fp_Order_30 (pc' := 153) (ws' := w_Order_layRow cI cJ cZ a_t a_row a_above a_sideUp a_number a_least a_weight a_p1 a_p1_firstEnd a_p1_secondEnd a_p1_home a_p1_kindOf a_p1_startAt a_p1_links row_28 above_24 sideUp_26 (count_17 + 1) p1_home p1_slots p1_count) rfl rfl rfl (Nat.le_of_ble_eq_true rfl) rfl rfl rfl ?_
              refine A_iinc K d_Order_layRow 89 5 (pc' := 156) (v := i3_13 + 1) (lv' := [(3, .int (i3_13 + 1)), (5, .int (p1_home (ix r_23))), (4, .int r_23), (0, .ref a_t), (1, .ref a_p1), (2, .int i2_5)]) rfl rfl rfl rfl (by decide) rfl ?_
              refine A_goto K d_Order_layRow 90 (pc' := 48) rfl rfl ?_
              refine A_lv [3, 4, 5, 0] rfl ?_
              exact ih_19 _ _ _ _ _ h
theorem met_Order_layRow (l : Launch) (D : va_G) (cI cJ cZ : ClassId) (a_t a_row a_above a_sideUp a_number a_least a_weight a_p1 a_p1_firstEnd a_p1_secondEnd a_p1_home a_p1_kindOf a_p1_startAt a_p1_links : Nat) (row : Nat → Int32) (above : Nat → Int32) (sideUp : Nat → Int32) (count : Int32) (p1_home : Nat → Int32) (p1_slots : Int32) (p1_count : Int32)  (post : (Nat → Int32) → (Nat → Int32) → (Nat → Int32) → Int32 → Prop) (sz : Nat) : Met l y_Order_layRow (Cond.code y_Order_layRow c_Order_layRow 6 (Option.none : Option Jvm.ClassFile.FieldType) :: GW) { frames := 1, cells := 0, slots := 0, locals := 20 } (va_Pc [.ref a_t, .ref a_p1] (fun U => sk_P D (tyl cI cJ cZ) (w_Order_layRow cI cJ cZ a_t a_row a_above a_sideUp a_number a_least a_weight a_p1 a_p1_firstEnd a_p1_secondEnd a_p1_home a_p1_kindOf a_p1_startAt a_p1_links row above sideUp count p1_home p1_slots p1_count) sz U ∧ wp_Order_layRow row above sideUp count p1_home p1_slots post)) (va_Qv (fun (u : (Nat → Int32) × (Nat → Int32) × (Nat → Int32) × Int32) => post  u.1 u.2.1 u.2.2.1 u.2.2.2) (fun u t => sk_B D (tyl cI cJ cZ) (w_Order_layRow cI cJ cZ a_t a_row a_above a_sideUp a_number a_least a_weight a_p1 a_p1_firstEnd a_p1_secondEnd a_p1_home a_p1_kindOf a_p1_startAt a_p1_links u.1 u.2.1 u.2.2.1 u.2.2.2 p1_home p1_slots p1_count) (va_A (w_Order_layRow cI cJ cZ a_t a_row a_above a_sideUp a_number a_least a_weight a_p1 a_p1_firstEnd a_p1_secondEnd a_p1_home a_p1_kindOf a_p1_startAt a_p1_links row above sideUp count p1_home p1_slots p1_count) sz) t) (va_A (w_Order_layRow cI cJ cZ a_t a_row a_above a_sideUp a_number a_least a_weight a_p1 a_p1_firstEnd a_p1_secondEnd a_p1_home a_p1_kindOf a_p1_startAt a_p1_links row above sideUp count p1_home p1_slots p1_count) sz)) 0 0 (va_A (w_Order_layRow cI cJ cZ a_t a_row a_above a_sideUp a_number a_least a_weight a_p1 a_p1_firstEnd a_p1_secondEnd a_p1_home a_p1_kindOf a_p1_startAt a_p1_links row above sideUp count p1_home p1_slots p1_count) sz) :=
  sk_intro (by decide) (Nat.le_of_ble_eq_true rfl) (fun p e s m below meth c K hr _ h => bd_Order_layRow K (Nat.le_refl _) (Nat.le_refl _) (fun _ z => z) (fun ti pc y0 y1 y2 y3 lv hd hp => A_vret K d_Order_layRow ti hr (post := (fun (u : (Nat → Int32) × (Nat → Int32) × (Nat → Int32) × Int32) => post  u.1 u.2.1 u.2.2.1 u.2.2.2)) (wl := fun (u : (Nat → Int32) × (Nat → Int32) × (Nat → Int32) × Int32) => w_Order_layRow cI cJ cZ a_t a_row a_above a_sideUp a_number a_least a_weight a_p1 a_p1_firstEnd a_p1_secondEnd a_p1_home a_p1_kindOf a_p1_startAt a_p1_links u.1 u.2.1 u.2.2.1 u.2.2.2 p1_home p1_slots p1_count) (y0, y1, y2, y3) hd hp) h)
/-! SkeletonTree$Order.sumUp()V -/
def t_Order_sumUp : List (Nat × Instr × Nat) := [(0, .aload_n 0, 1), (1, .getfield 27, 3), (4, .iconst 1, 1), (5, .invokestatic 48, 3), (8, .aload_n 0, 1), (9, .getfield 30, 3), (12, .iconst 1, 1), (13, .isub, 1), (14, .istore_n 1, 1), (15, .iload_n 1, 1), (16, .ifCond .le 59, 3), (19, .aload_n 0, 1), (20, .getfield 9, 3), (23, .iload_n 1, 1), (24, .iaload, 1), (25, .istore_n 2, 1), (26, .aload_n 0, 1), (27, .getfield 15, 3), (30, .iload_n 2, 1), (31, .iaload, 1), (32, .istore_n 3, 1), (33, .aload_n 0, 1), (34, .getfield 24, 3), (37, .iload_n 3, 1), (38, .aload_n 0, 1), (39, .getfield 24, 3), (42, .iload_n 3, 1), (43, .iaload, 1), (44, .aload_n 0, 1), (45, .getfield 24, 3), (48, .iload_n 2, 1), (49, .iaload, 1), (50, .invokestatic 65, 3), (53, .iastore, 1), (54, .aload_n 0, 1), (55, .getfield 27, 3), (58, .iload_n 3, 1), (59, .dup2, 1), (60, .iaload, 1), (61, .aload_n 0, 1), (62, .getfield 27, 3), (65, .iload_n 2, 1), (66, .iaload, 1), (67, .iadd, 1), (68, .iastore, 1), (69, .iinc 1 (-1), 3), (72, .goto (-57), 3), (75, .return_, 1)]
set_option maxRecDepth 100000 in
theorem d_Order_sumUp : sk_T c_Order_sumUp t_Order_sumUp := by unfold sk_T t_Order_sumUp; decide +kernel
def w_Order_sumUp (cI cJ cZ : ClassId) (a_t a_row a_above a_sideUp a_number a_least a_weight : Nat) (row : Nat → Int32) (above : Nat → Int32) (least : Nat → Int32) (weight : Nat → Int32) (count : Int32) : va_W := [(a_t, .inr (2, [.ref a_row, .ref a_above, .ref a_sideUp, .ref a_number, .ref a_least, .ref a_weight, .int count])), (a_row, .inl (cI, 98, .inl row)), (a_above, .inl (cI, 98, .inl above)), (a_least, .inl (cI, 98, .inl least)), (a_weight, .inl (cI, 98, .inl weight))]
def wp_Order_sumUp  (row : Nat → Int32) (above : Nat → Int32) (least : Nat → Int32) (weight : Nat → Int32) (count : Int32)  (post : (Nat → Int32) → (Nat → Int32) → Prop) : Prop :=
  wp_Arrays_fillI 98 weight 1 (fun weight_1 => ∃ n, sL3 (fun (K_5 : Int32 → (Nat → Int32) → (Nat → Int32) → Prop) (i1_2 : Int32) (least_3 : Nat → Int32) (weight_4 : Nat → Int32) => (i1_2 ≤ 0 → post least_3 weight_4) ∧ (¬ i1_2 ≤ 0 → vp_in i1_2 98 ∧ vp_in (row (ix i1_2)) 98 ∧ vp_in (above (ix (row (ix i1_2)))) 98 ∧ ∀ x_8 : Int32, x_8 = least_3 (ix (above (ix (row (ix i1_2))))) → vp_in (row (ix i1_2)) 98 ∧ ∀ x_10 : Int32, x_10 = (if (least_3 (ix (row (ix i1_2)))) < x_8 then (least_3 (ix (row (ix i1_2)))) else x_8) → vp_in (above (ix (row (ix i1_2)))) 98 ∧ ∀ least_12 : Nat → Int32, least_12 = upd least_3 (ix (above (ix (row (ix i1_2))))) x_10 → vp_in (above (ix (row (ix i1_2)))) 98 ∧ ∀ x_14 : Int32, x_14 = weight_4 (ix (above (ix (row (ix i1_2))))) → vp_in (row (ix i1_2)) 98 ∧ vp_in (above (ix (row (ix i1_2)))) 98 ∧ ∀ weight_16 : Nat → Int32, weight_16 = upd weight_4 (ix (above (ix (row (ix i1_2))))) (x_14 + (weight_4 (ix (row (ix i1_2))))) → K_5 (i1_2 + (-1)) least_12 weight_16)) n (count - 1) least weight_1)
set_option maxHeartbeats 4000000 in
set_option maxRecDepth 100000 in
theorem bd_Order_sumUp {p : Program} {l : Launch} {e : Env} {R : Room} {s : State} {m : MethodId} {args : Array Value} {below : List Frame} {meth : Method} {c : Code} {D : va_G} {A B : Nat → Prop} {Q : State → Prop} {cI cJ cZ : ClassId} {a_t a_row a_above a_sideUp a_number a_least a_weight : Nat} {row : Nat → Int32} {above : Nat → Int32} {least : Nat → Int32} {weight : Nat → Int32} {count : Int32}  (K : sk_C p s m args meth c c_Order_sumUp 4 "SkeletonTree$Order" D (tyl cI cJ cZ)) (hR1 : 1 ≤ R.frames) (hR2 : 23 ≤ R.locals) (hBA : ∀ q : Nat, B q → A q) {post : (Nat → Int32) → (Nat → Int32) → Prop} (hend : ∀ (ti pc : Nat)  (y0 : Nat → Int32) (y1 : Nat → Int32) (lv : List (Nat × Value)), t_Order_sumUp[ti]? = some (pc, .return_, 1) → post  y0 y1 → AW p l e R s m args below meth c D A B 4 Q 0 0 (w_Order_sumUp cI cJ cZ a_t a_row a_above a_sideUp a_number a_least a_weight row above y0 y1 count) lv pc []) (h : wp_Order_sumUp row above least weight count post) : AW p l e R s m args below meth c D A B 4 Q 0 0 (w_Order_sumUp cI cJ cZ a_t a_row a_above a_sideUp a_number a_least a_weight row above least weight count) [(0, .ref a_t)] 0 [] := by
  unfold wp_Order_sumUp at h
  refine A_aload_n K d_Order_sumUp 0 0 (pc' := 1) rfl rfl rfl rfl ?_
  refine A_get K d_Order_sumUp 1 0 fl_Order_27 (pc' := 4) rfl rfl rfl rfl ?_
  refine A_iconst K d_Order_sumUp 2 (pc' := 5) (v := 1) rfl rfl (by decide) ?_
  refine C_Sv1 K hBA d_Order_sumUp 3 [4] [none, none, none, none, some 0] (As := [.ref a_weight, .int 1]) (rest := []) (pc' := 8) (wl := fun weight_1 => w_Arrays_fillI cI cJ cZ a_weight 98 weight_1) (ws' := fun weight_1 => w_Order_sumUp cI cJ cZ a_t a_row a_above a_sideUp a_number a_least a_weight row above least weight_1 count) v_Order_48 ⟨rfl, rfl, Nat.le_trans (Nat.le_of_ble_eq_true rfl) hR1, Nat.le_trans (Nat.le_of_ble_eq_true rfl) hR2⟩ (fun sz => met_Arrays_fillI l D cI cJ cZ a_weight 98 weight 1 _ sz) h rfl rfl rfl rfl rfl (fun _ => rfl) rfl (by decide) (Nat.le_of_ble_eq_true rfl) ⟨Nat.zero_le _, Nat.zero_le _⟩ (fun _ => rfl) (fun weight_1 h => ?_)
  refine A_aload_n K d_Order_sumUp 4 0 (pc' := 9) rfl rfl rfl rfl ?_
  refine A_get K d_Order_sumUp 5 0 fl_Order_30 (pc' := 12) rfl rfl rfl rfl ?_
  refine A_iconst K d_Order_sumUp 6 (pc' := 13) (v := 1) rfl rfl (by decide) ?_
  refine A_isub K d_Order_sumUp 7 (pc' := 14) rfl rfl ?_
  refine A_istore_n K d_Order_sumUp 8 (pc' := 15) (lv' := [(1, .int (count - 1)), (0, .ref a_t)]) rfl rfl rfl (by decide) rfl ?_
  refine A_lv [1, 0] rfl ?_
  obtain ⟨n_7, h⟩ := h
  refine sL3_ind (fun (i1_2 : Int32) (least_3 : Nat → Int32) (weight_4 : Nat → Int32) => AW p l e R s m args below meth c D A B 4 Q 0 0 (w_Order_sumUp cI cJ cZ a_t a_row a_above a_sideUp a_number a_least a_weight row above least_3 weight_4 count) [(0, .ref a_t), (1, .int i1_2)] 15 []) ?_ n_7 _ _ _ h
  intro K_5 ih_6 i1_2 least_3 weight_4 h
  refine A_iload_n K d_Order_sumUp 9 1 (pc' := 16) rfl rfl rfl rfl ?_
  refine A_if_le K d_Order_sumUp 10 75 (pc' := 19) rfl rfl rfl (fun q => ?_) (fun q => ?_)
  · replace h := h.1 q
    exact hend 47 _ _ _ _ rfl h
  · replace h := h.2 q
    refine A_aload_n K d_Order_sumUp 11 0 (pc' := 20) rfl rfl rfl rfl ?_
    refine A_get K d_Order_sumUp 12 0 fl_Order_9 (pc' := 23) rfl rfl rfl rfl ?_
    refine A_iload_n K d_Order_sumUp 13 1 (pc' := 24) rfl rfl rfl rfl ?_
    refine A_iald K d_Order_sumUp 14 1 0 (pc' := 25) rfl rfl rfl rfl h.1 ?_
    replace h := h.2
    refine A_istore_n K d_Order_sumUp 15 (pc' := 26) (lv' := [(2, .int (row (ix i1_2))), (0, .ref a_t), (1, .int i1_2)]) rfl rfl rfl (by decide) rfl ?_
    refine A_aload_n K d_Order_sumUp 16 1 (pc' := 27) rfl rfl rfl rfl ?_
    refine A_get K d_Order_sumUp 17 0 fl_Order_15 (pc' := 30) rfl rfl rfl rfl ?_
    refine A_iload_n K d_Order_sumUp 18 0 (pc' := 31) rfl rfl rfl rfl ?_
    refine A_iald K d_Order_sumUp 19 2 0 (pc' := 32) rfl rfl rfl rfl h.1 ?_
    replace h := h.2
    refine A_istore_n K d_Order_sumUp 20 (pc' := 33) (lv' := [(3, .int (above (ix (row (ix i1_2))))), (2, .int (row (ix i1_2))), (0, .ref a_t), (1, .int i1_2)]) rfl rfl rfl (by decide) rfl ?_
    refine A_aload_n K d_Order_sumUp 21 2 (pc' := 34) rfl rfl rfl rfl ?_
    refine A_get K d_Order_sumUp 22 0 fl_Order_24 (pc' := 37) rfl rfl rfl rfl ?_
    refine A_iload_n K d_Order_sumUp 23 0 (pc' := 38) rfl rfl rfl rfl ?_
    refine A_aload_n K d_Order_sumUp 24 2 (pc' := 39) rfl rfl rfl rfl ?_
    refine A_get K d_Order_sumUp 25 0 fl_Order_24 (pc' := 42) rfl rfl rfl rfl ?_
    refine A_iload_n K d_Order_sumUp 26 0 (pc' := 43) rfl rfl rfl rfl ?_
    refine A_iald K d_Order_sumUp 27 3 0 (pc' := 44) rfl rfl rfl rfl h.1 ?_
    replace h := h.2
    refine A_topi (fun x_8 e_9 => ?_)
    replace h := h x_8 e_9
    refine A_aload_n K d_Order_sumUp 28 2 (pc' := 45) rfl rfl rfl rfl ?_
    refine A_get K d_Order_sumUp 29 0 fl_Order_24 (pc' := 48) rfl rfl rfl rfl ?_
    refine A_iload_n K d_Order_sumUp 30 1 (pc' := 49) rfl rfl rfl rfl ?_
    refine A_iald K d_Order_sumUp 31 3 0 (pc' := 50) rfl rfl rfl rfl h.1 ?_
    replace h := h.2
    refine A_mmin K d_Order_sumUp 32 g_359 g_360 g_60 gm_min (pc' := 53) rfl rfl (Nat.le_trans (Nat.le_of_ble_eq_true rfl) hR1) (Nat.le_trans (Nat.le_of_ble_eq_true rfl) hR2) ⟨Nat.zero_le _, Nat.zero_le _⟩ ?_
    refine A_topi (fun x_10 e_11 => ?_)
    replace h := h x_10 e_11
    refine A_iastN K hBA d_Order_sumUp 33 3 0 (pc' := 54) (ws' := fun least_12 => w_Order_sumUp cI cJ cZ a_t a_row a_above a_sideUp a_number a_least a_weight row above least_12 weight_4 count) rfl rfl rfl rfl h.1 (fun _ => rfl) (fun least_12 e_13 => ?_)
    replace h := h.2 least_12 e_13
    refine A_aload_n K d_Order_sumUp 34 2 (pc' := 55) rfl rfl rfl rfl ?_
    refine A_get K d_Order_sumUp 35 0 fl_Order_27 (pc' := 58) rfl rfl rfl rfl ?_
    refine A_iload_n K d_Order_sumUp 36 0 (pc' := 59) rfl rfl rfl rfl ?_
    refine A_dup2 K d_Order_sumUp 37 (pc' := 60) rfl rfl rfl rfl ?_
    refine A_iald K d_Order_sumUp 38 4 0 (pc' := 61) rfl rfl rfl rfl h.1 ?_
    replace h := h.2
    refine A_topi (fun x_14 e_15 => ?_)
    replace h := h x_14 e_15
    refine A_aload_n K d_Order_sumUp 39 2 (pc' := 62) rfl rfl rfl rfl ?_
    refine A_get K d_Order_sumUp 40 0 fl_Order_27 (pc' := 65) rfl rfl rfl rfl ?_
    refine A_iload_n K d_Order_sumUp 41 1 (pc' := 66) rfl rfl rfl rfl ?_
    refine A_iald K d_Order_sumUp 42 4 0 (pc' := 67) rfl rfl rfl rfl h.1 ?_
    replace h := h.2
    refine A_iadd K d_Order_sumUp 43 (pc' := 68) rfl rfl ?_
    refine A_iastN K hBA d_Order_sumUp 44 4 0 (pc' := 69) (ws' := fun weight_16 => w_Order_sumUp cI cJ cZ a_t a_row a_above a_sideUp a_number a_least a_weight row above least_12 weight_16 count) rfl rfl rfl rfl h.1 (fun _ => rfl) (fun weight_16 e_17 => ?_)
    replace h := h.2 weight_16 e_17
    refine A_iinc K d_Order_sumUp 45 3 (pc' := 72) (v := i1_2 + (-1)) (lv' := [(1, .int (i1_2 + (-1))), (3, .int (above (ix (row (ix i1_2))))), (2, .int (row (ix i1_2))), (0, .ref a_t)]) rfl rfl rfl rfl (by decide) rfl ?_
    refine A_goto K d_Order_sumUp 46 (pc' := 15) rfl rfl ?_
    refine A_lv [3, 0] rfl ?_
    exact ih_6 _ _ _ h
theorem met_Order_sumUp (l : Launch) (D : va_G) (cI cJ cZ : ClassId) (a_t a_row a_above a_sideUp a_number a_least a_weight : Nat) (row : Nat → Int32) (above : Nat → Int32) (least : Nat → Int32) (weight : Nat → Int32) (count : Int32)  (post : (Nat → Int32) → (Nat → Int32) → Prop) (sz : Nat) : Met l y_Order_sumUp (Cond.code y_Order_sumUp c_Order_sumUp 4 (Option.none : Option Jvm.ClassFile.FieldType) :: GW) { frames := 1, cells := 0, slots := 0, locals := 23 } (va_Pc [.ref a_t] (fun U => sk_P D (tyl cI cJ cZ) (w_Order_sumUp cI cJ cZ a_t a_row a_above a_sideUp a_number a_least a_weight row above least weight count) sz U ∧ wp_Order_sumUp row above least weight count post)) (va_Qv (fun (u : (Nat → Int32) × (Nat → Int32)) => post  u.1 u.2) (fun u t => sk_B D (tyl cI cJ cZ) (w_Order_sumUp cI cJ cZ a_t a_row a_above a_sideUp a_number a_least a_weight row above u.1 u.2 count) (va_A (w_Order_sumUp cI cJ cZ a_t a_row a_above a_sideUp a_number a_least a_weight row above least weight count) sz) t) (va_A (w_Order_sumUp cI cJ cZ a_t a_row a_above a_sideUp a_number a_least a_weight row above least weight count) sz)) 0 0 (va_A (w_Order_sumUp cI cJ cZ a_t a_row a_above a_sideUp a_number a_least a_weight row above least weight count) sz) :=
  sk_intro (by decide) (Nat.le_of_ble_eq_true rfl) (fun p e s m below meth c K hr _ h => bd_Order_sumUp K (Nat.le_refl _) (Nat.le_refl _) (fun _ z => z) (fun ti pc y0 y1 lv hd hp => A_vret K d_Order_sumUp ti hr (post := (fun (u : (Nat → Int32) × (Nat → Int32)) => post  u.1 u.2)) (wl := fun (u : (Nat → Int32) × (Nat → Int32)) => w_Order_sumUp cI cJ cZ a_t a_row a_above a_sideUp a_number a_least a_weight row above u.1 u.2 count) (y0, y1) hd hp) h)
/-! SkeletonTree$Order.numberFor(I)I -/
def t_Order_numberFor : List (Nat × Instr × Nat) := [(0, .aload_n 0, 1), (1, .getfield 15, 3), (4, .iload_n 1, 1), (5, .iaload, 1), (6, .istore_n 2, 1), (7, .iload_n 2, 1), (8, .iconst (-1), 1), (9, .if_icmp .ne 5, 3), (12, .iconst 0, 1), (13, .ireturn, 1), (14, .aload_n 0, 1), (15, .getfield 21, 3), (18, .iload_n 2, 1), (19, .iaload, 1), (20, .iconst 1, 1), (21, .iadd, 1), (22, .istore_n 3, 1), (23, .iconst 1, 1), (24, .istore 4, 2), (26, .iload 4, 2), (28, .aload_n 0, 1), (29, .getfield 30, 3), (32, .if_icmp .ge 55, 3), (35, .aload_n 0, 1), (36, .getfield 9, 3), (39, .iload 4, 2), (41, .iaload, 1), (42, .istore 5, 2), (44, .aload_n 0, 1), (45, .getfield 15, 3), (48, .iload 5, 2), (50, .iaload, 1), (51, .iload_n 2, 1), (52, .if_icmp .ne 29, 3), (55, .aload_n 0, 1), (56, .getfield 24, 3), (59, .iload 5, 2), (61, .iaload, 1), (62, .aload_n 0, 1), (63, .getfield 24, 3), (66, .iload_n 1, 1), (67, .iaload, 1), (68, .if_icmp .ge 13, 3), (71, .iload_n 3, 1), (72, .aload_n 0, 1), (73, .getfield 27, 3), (76, .iload 5, 2), (78, .iaload, 1), (79, .iadd, 1), (80, .istore_n 3, 1), (81, .iinc 4 1, 3), (84, .goto (-58), 3), (87, .iload_n 3, 1), (88, .ireturn, 1)]
set_option maxRecDepth 100000 in
theorem d_Order_numberFor : sk_T c_Order_numberFor t_Order_numberFor := by unfold sk_T t_Order_numberFor; decide +kernel
def w_Order_numberFor (cI cJ cZ : ClassId) (a_t a_row a_above a_sideUp a_number a_least a_weight : Nat) (row : Nat → Int32) (above : Nat → Int32) (number : Nat → Int32) (least : Nat → Int32) (weight : Nat → Int32) (count : Int32) : va_W := [(a_t, .inr (2, [.ref a_row, .ref a_above, .ref a_sideUp, .ref a_number, .ref a_least, .ref a_weight, .int count])), (a_row, .inl (cI, 98, .inl row)), (a_above, .inl (cI, 98, .inl above)), (a_number, .inl (cI, 98, .inl number)), (a_least, .inl (cI, 98, .inl least)), (a_weight, .inl (cI, 98, .inl weight))]
def wp_Order_numberFor  (row : Nat → Int32) (above : Nat → Int32) (number : Nat → Int32) (least : Nat → Int32) (weight : Nat → Int32) (count : Int32) (x1 : Int32) (post : Int32 → Prop) : Prop :=
  vp_in x1 98 ∧ (¬ (above (ix x1)) = (-1) → vp_in (above (ix x1)) 98 ∧ ∃ n, sL2 (fun (K_3 : Int32 → Int32 → Prop) (i3_1 : Int32) (i4_2 : Int32) => (count ≤ i4_2 → post i3_1 ) ∧ (¬ count ≤ i4_2 → vp_in i4_2 98 ∧ vp_in (row (ix i4_2)) 98 ∧ (¬ (above (ix (row (ix i4_2)))) = (above (ix x1)) → K_3 i3_1 (i4_2 + 1)) ∧ ((above (ix (row (ix i4_2)))) = (above (ix x1)) → vp_in (row (ix i4_2)) 98 ∧ vp_in x1 98 ∧ ((least (ix x1)) ≤ (least (ix (row (ix i4_2)))) → K_3 i3_1 (i4_2 + 1)) ∧ (¬ (least (ix x1)) ≤ (least (ix (row (ix i4_2)))) → vp_in (row (ix i4_2)) 98 ∧ K_3 (i3_1 + (weight (ix (row (ix i4_2))))) (i4_2 + 1))))) n ((number (ix (above (ix x1)))) + 1) 1) ∧ ((above (ix x1)) = (-1) → post 0 )
set_option maxHeartbeats 4000000 in
set_option maxRecDepth 100000 in
theorem bd_Order_numberFor {p : Program} {l : Launch} {e : Env} {R : Room} {s : State} {m : MethodId} {args : Array Value} {below : List Frame} {meth : Method} {c : Code} {D : va_G} {A B : Nat → Prop} {Q : State → Prop} {cI cJ cZ : ClassId} {a_t a_row a_above a_sideUp a_number a_least a_weight : Nat} {row : Nat → Int32} {above : Nat → Int32} {number : Nat → Int32} {least : Nat → Int32} {weight : Nat → Int32} {count : Int32} {x1 : Int32} (K : sk_C p s m args meth c c_Order_numberFor 6 "SkeletonTree$Order" D (tyl cI cJ cZ)) (hR1 : 0 ≤ R.frames) (hR2 : 0 ≤ R.locals) {post : Int32 → Prop} (hend : ∀ (ti pc : Nat) (r : Int32)  (lv : List (Nat × Value)), t_Order_numberFor[ti]? = some (pc, .ireturn, 1) → post r  → AW p l e R s m args below meth c D A B 6 Q 0 0 (w_Order_numberFor cI cJ cZ a_t a_row a_above a_sideUp a_number a_least a_weight row above number least weight count) lv pc [.int r]) (h : wp_Order_numberFor row above number least weight count x1 post) : AW p l e R s m args below meth c D A B 6 Q 0 0 (w_Order_numberFor cI cJ cZ a_t a_row a_above a_sideUp a_number a_least a_weight row above number least weight count) [(0, .ref a_t), (1, .int x1)] 0 [] := by
  unfold wp_Order_numberFor at h
  refine A_aload_n K d_Order_numberFor 0 0 (pc' := 1) rfl rfl rfl rfl ?_
  refine A_get K d_Order_numberFor 1 0 fl_Order_15 (pc' := 4) rfl rfl rfl rfl ?_
  refine A_iload_n K d_Order_numberFor 2 1 (pc' := 5) rfl rfl rfl rfl ?_
  refine A_iald K d_Order_numberFor 3 2 0 (pc' := 6) rfl rfl rfl rfl h.1 ?_
  replace h := h.2
  refine A_istore_n K d_Order_numberFor 4 (pc' := 7) (lv' := [(2, .int (above (ix x1))), (0, .ref a_t), (1, .int x1)]) rfl rfl rfl (by decide) rfl ?_
  refine A_iload_n K d_Order_numberFor 5 0 (pc' := 8) rfl rfl rfl rfl ?_
  refine A_iconst K d_Order_numberFor 6 (pc' := 9) (v := (-1)) rfl rfl (by decide) ?_
  refine A_icmp_ne K d_Order_numberFor 7 14 (pc' := 12) rfl rfl rfl (fun q => ?_) (fun q => ?_)
  · replace h := h.1 q
    refine A_aload_n K d_Order_numberFor 10 1 (pc' := 15) rfl rfl rfl rfl ?_
    refine A_get K d_Order_numberFor 11 0 fl_Order_21 (pc' := 18) rfl rfl rfl rfl ?_
    refine A_iload_n K d_Order_numberFor 12 0 (pc' := 19) rfl rfl rfl rfl ?_
    refine A_iald K d_Order_numberFor 13 3 0 (pc' := 20) rfl rfl rfl rfl h.1 ?_
    replace h := h.2
    refine A_iconst K d_Order_numberFor 14 (pc' := 21) (v := 1) rfl rfl (by decide) ?_
    refine A_iadd K d_Order_numberFor 15 (pc' := 22) rfl rfl ?_
    refine A_istore_n K d_Order_numberFor 16 (pc' := 23) (lv' := [(3, .int ((number (ix (above (ix x1)))) + 1)), (2, .int (above (ix x1))), (0, .ref a_t), (1, .int x1)]) rfl rfl rfl (by decide) rfl ?_
    refine A_iconst K d_Order_numberFor 17 (pc' := 24) (v := 1) rfl rfl (by decide) ?_
    refine A_istore K d_Order_numberFor 18 (pc' := 26) (lv' := [(4, .int 1), (3, .int ((number (ix (above (ix x1)))) + 1)), (2, .int (above (ix x1))), (0, .ref a_t), (1, .int x1)]) rfl rfl (by decide) rfl ?_
    refine A_lv [3, 4, 2, 1, 0] rfl ?_
    obtain ⟨n_5, h⟩ := h
    refine sL2_ind (fun (i3_1 : Int32) (i4_2 : Int32) => AW p l e R s m args below meth c D A B 6 Q 0 0 (w_Order_numberFor cI cJ cZ a_t a_row a_above a_sideUp a_number a_least a_weight row above number least weight count) [(0, .ref a_t), (1, .int x1), (2, .int (above (ix x1))), (3, .int i3_1), (4, .int i4_2)] 26 []) ?_ n_5 _ _ h
    intro K_3 ih_4 i3_1 i4_2 h
    refine A_iload K d_Order_numberFor 19 4 (pc' := 28) rfl rfl rfl ?_
    refine A_aload_n K d_Order_numberFor 20 0 (pc' := 29) rfl rfl rfl rfl ?_
    refine A_get K d_Order_numberFor 21 0 fl_Order_30 (pc' := 32) rfl rfl rfl rfl ?_
    refine A_icmp_ge K d_Order_numberFor 22 87 (pc' := 35) rfl rfl rfl (fun q => ?_) (fun q => ?_)
    · replace h := h.1 q
      refine A_iload_n K d_Order_numberFor 52 3 (pc' := 88) rfl rfl rfl rfl ?_
      exact hend 53 _ _ _ rfl h
    · replace h := h.2 q
      refine A_aload_n K d_Order_numberFor 23 0 (pc' := 36) rfl rfl rfl rfl ?_
      refine A_get K d_Order_numberFor 24 0 fl_Order_9 (pc' := 39) rfl rfl rfl rfl ?_
      refine A_iload K d_Order_numberFor 25 4 (pc' := 41) rfl rfl rfl ?_
      refine A_iald K d_Order_numberFor 26 1 0 (pc' := 42) rfl rfl rfl rfl h.1 ?_
      replace h := h.2
      refine A_istore K d_Order_numberFor 27 (pc' := 44) (lv' := [(5, .int (row (ix i4_2))), (0, .ref a_t), (1, .int x1), (2, .int (above (ix x1))), (3, .int i3_1), (4, .int i4_2)]) rfl rfl (by decide) rfl ?_
      refine A_aload_n K d_Order_numberFor 28 1 (pc' := 45) rfl rfl rfl rfl ?_
      refine A_get K d_Order_numberFor 29 0 fl_Order_15 (pc' := 48) rfl rfl rfl rfl ?_
      refine A_iload K d_Order_numberFor 30 0 (pc' := 50) rfl rfl rfl ?_
      refine A_iald K d_Order_numberFor 31 2 0 (pc' := 51) rfl rfl rfl rfl h.1 ?_
      replace h := h.2
      refine A_iload_n K d_Order_numberFor 32 3 (pc' := 52) rfl rfl rfl rfl ?_
      refine A_icmp_ne K d_Order_numberFor 33 81 (pc' := 55) rfl rfl rfl (fun q => ?_) (fun q => ?_)
      · replace h := h.1 q
        refine A_iinc K d_Order_numberFor 50 5 (pc' := 84) (v := i4_2 + 1) (lv' := [(4, .int (i4_2 + 1)), (5, .int (row (ix i4_2))), (0, .ref a_t), (1, .int x1), (2, .int (above (ix x1))), (3, .int i3_1)]) rfl rfl rfl rfl (by decide) rfl ?_
        refine A_goto K d_Order_numberFor 51 (pc' := 26) rfl rfl ?_
        refine A_lv [2, 3, 4, 5, 0] rfl ?_
        exact ih_4 _ _ h
      · replace h := h.2 q
        refine A_aload_n K d_Order_numberFor 34 1 (pc' := 56) rfl rfl rfl rfl ?_
        refine A_get K d_Order_numberFor 35 0 fl_Order_24 (pc' := 59) rfl rfl rfl rfl ?_
        refine A_iload K d_Order_numberFor 36 0 (pc' := 61) rfl rfl rfl ?_
        refine A_iald K d_Order_numberFor 37 4 0 (pc' := 62) rfl rfl rfl rfl h.1 ?_
        replace h := h.2
        refine A_aload_n K d_Order_numberFor 38 1 (pc' := 63) rfl rfl rfl rfl ?_
        refine A_get K d_Order_numberFor 39 0 fl_Order_24 (pc' := 66) rfl rfl rfl rfl ?_
        refine A_iload_n K d_Order_numberFor 40 2 (pc' := 67) rfl rfl rfl rfl ?_
        refine A_iald K d_Order_numberFor 41 4 0 (pc' := 68) rfl rfl rfl rfl h.1 ?_
        replace h := h.2
        refine A_icmp_ge K d_Order_numberFor 42 81 (pc' := 71) rfl rfl rfl (fun q => ?_) (fun q => ?_)
        · replace h := h.1 q
          refine A_iinc K d_Order_numberFor 50 5 (pc' := 84) (v := i4_2 + 1) (lv' := [(4, .int (i4_2 + 1)), (5, .int (row (ix i4_2))), (0, .ref a_t), (1, .int x1), (2, .int (above (ix x1))), (3, .int i3_1)]) rfl rfl rfl rfl (by decide) rfl ?_
          refine A_goto K d_Order_numberFor 51 (pc' := 26) rfl rfl ?_
          refine A_lv [2, 3, 4, 5, 0] rfl ?_
          exact ih_4 _ _ h
        · replace h := h.2 q
          refine A_iload_n K d_Order_numberFor 43 4 (pc' := 72) rfl rfl rfl rfl ?_
          refine A_aload_n K d_Order_numberFor 44 1 (pc' := 73) rfl rfl rfl rfl ?_
          refine A_get K d_Order_numberFor 45 0 fl_Order_27 (pc' := 76) rfl rfl rfl rfl ?_
          refine A_iload K d_Order_numberFor 46 0 (pc' := 78) rfl rfl rfl ?_
          refine A_iald K d_Order_numberFor 47 5 0 (pc' := 79) rfl rfl rfl rfl h.1 ?_
          replace h := h.2
          refine A_iadd K d_Order_numberFor 48 (pc' := 80) rfl rfl ?_
          refine A_istore_n K d_Order_numberFor 49 (pc' := 81) (lv' := [(3, .int (i3_1 + (weight (ix (row (ix i4_2)))))), (5, .int (row (ix i4_2))), (0, .ref a_t), (1, .int x1), (2, .int (above (ix x1))), (4, .int i4_2)]) rfl rfl rfl (by decide) rfl ?_
          refine A_iinc K d_Order_numberFor 50 5 (pc' := 84) (v := i4_2 + 1) (lv' := [(4, .int (i4_2 + 1)), (3, .int (i3_1 + (weight (ix (row (ix i4_2)))))), (5, .int (row (ix i4_2))), (0, .ref a_t), (1, .int x1), (2, .int (above (ix x1)))]) rfl rfl rfl rfl (by decide) rfl ?_
          refine A_goto K d_Order_numberFor 51 (pc' := 26) rfl rfl ?_
          refine A_lv [3, 4, 5, 1, 0] rfl ?_
          exact ih_4 _ _ h
  · replace h := h.2 q
    refine A_iconst K d_Order_numberFor 8 (pc' := 13) (v := 0) rfl rfl (by decide) ?_
    exact hend 9 _ _ _ rfl h
theorem met_Order_numberFor (l : Launch) (D : va_G) (cI cJ cZ : ClassId) (a_t a_row a_above a_sideUp a_number a_least a_weight : Nat) (row : Nat → Int32) (above : Nat → Int32) (number : Nat → Int32) (least : Nat → Int32) (weight : Nat → Int32) (count : Int32) (x1 : Int32) (post : Int32 → Prop) (sz : Nat) : Met l y_Order_numberFor (Cond.code y_Order_numberFor c_Order_numberFor 6 (Option.some Jvm.ClassFile.FieldType.int) :: GW) { frames := 0, cells := 0, slots := 0, locals := 0 } (va_Pc [.ref a_t, .int x1] (fun U => sk_P D (tyl cI cJ cZ) (w_Order_numberFor cI cJ cZ a_t a_row a_above a_sideUp a_number a_least a_weight row above number least weight count) sz U ∧ wp_Order_numberFor row above number least weight count x1 post)) (va_Qi (fun (r : Int32) (_ : Unit) => post r) (fun _ t => sk_B D (tyl cI cJ cZ) (w_Order_numberFor cI cJ cZ a_t a_row a_above a_sideUp a_number a_least a_weight row above number least weight count) (fun _ => True) t) (fun q => sz ≤ q)) 0 0 (fun q => sz ≤ q) :=
  sk_introR (by decide) (Nat.le_of_ble_eq_true rfl) (fun p e s m below meth c K hr _ h => bd_Order_numberFor K (Nat.le_refl _) (Nat.le_refl _) (fun ti pc r  lv hd hp => A_iret K d_Order_numberFor ti hr (post := (fun (r : Int32) (_ : Unit) => post r)) (wl := fun (_ : Unit) => w_Order_numberFor cI cJ cZ a_t a_row a_above a_sideUp a_number a_least a_weight row above number least weight count) () hd hp) h)
/-! SkeletonTree$Order.follow(LSkeletonTree$Pieces;)V -/
def t_Order_follow : List (Nat × Instr × Nat) := [(0, .aload_n 0, 1), (1, .aload_n 1, 1), (2, .invokevirtual 34, 3), (5, .aload_n 0, 1), (6, .aload_n 1, 1), (7, .invokevirtual 38, 3), (10, .aload_n 0, 1), (11, .invokevirtual 41, 3), (14, .iconst 0, 1), (15, .istore_n 2, 1), (16, .iload_n 2, 1), (17, .aload_n 0, 1), (18, .getfield 30, 3), (21, .if_icmp .ge 30, 3), (24, .aload_n 0, 1), (25, .getfield 21, 3), (28, .aload_n 0, 1), (29, .getfield 9, 3), (32, .iload_n 2, 1), (33, .iaload, 1), (34, .aload_n 0, 1), (35, .aload_n 0, 1), (36, .getfield 9, 3), (39, .iload_n 2, 1), (40, .iaload, 1), (41, .invokevirtual 44, 3), (44, .iastore, 1), (45, .iinc 2 1, 3), (48, .goto (-32), 3), (51, .return_, 1)]
set_option maxRecDepth 100000 in
theorem d_Order_follow : sk_T c_Order_follow t_Order_follow := by unfold sk_T t_Order_follow; decide +kernel
def w_Order_follow (cI cJ cZ : ClassId) (a_t a_row a_above a_sideUp a_number a_least a_weight a_p1 a_p1_firstEnd a_p1_secondEnd a_p1_home a_p1_kindOf a_p1_startAt a_p1_links : Nat) (row : Nat → Int32) (above : Nat → Int32) (sideUp : Nat → Int32) (number : Nat → Int32) (least : Nat → Int32) (weight : Nat → Int32) (count : Int32) (p1_home : Nat → Int32) (p1_slots : Int32) (p1_count : Int32) : va_W := [(a_t, .inr (2, [.ref a_row, .ref a_above, .ref a_sideUp, .ref a_number, .ref a_least, .ref a_weight, .int count])), (a_row, .inl (cI, 98, .inl row)), (a_above, .inl (cI, 98, .inl above)), (a_sideUp, .inl (cI, 98, .inl sideUp)), (a_number, .inl (cI, 98, .inl number)), (a_least, .inl (cI, 98, .inl least)), (a_weight, .inl (cI, 98, .inl weight)), (a_p1, .inr (3, [.ref a_p1_firstEnd, .ref a_p1_secondEnd, .ref a_p1_home, .ref a_p1_kindOf, .ref a_p1_startAt, .ref a_p1_links, .int p1_slots, .int p1_count])), (a_p1_home, .inl (cI, 294, .inl p1_home))]
def wp_Order_follow  (row : Nat → Int32) (above : Nat → Int32) (sideUp : Nat → Int32) (number : Nat → Int32) (least : Nat → Int32) (weight : Nat → Int32) (count : Int32) (p1_home : Nat → Int32) (p1_slots : Int32)  (post : (Nat → Int32) → (Nat → Int32) → (Nat → Int32) → (Nat → Int32) → (Nat → Int32) → (Nat → Int32) → Int32 → Prop) : Prop :=
  wp_Order_findLeastEdges row least p1_home (fun row_1 least_2 => wp_Order_layRow row_1 above sideUp count p1_home p1_slots (fun row_3 above_4 sideUp_5 count_6 => wp_Order_sumUp row_3 above_4 least_2 weight count_6 (fun least_7 weight_8 => ∃ n, sL2 (fun (K_11 : Int32 → (Nat → Int32) → Prop) (i2_9 : Int32) (number_10 : Nat → Int32) => (count_6 ≤ i2_9 → post row_3 above_4 sideUp_5 number_10 least_7 weight_8 count_6) ∧ (¬ count_6 ≤ i2_9 → vp_in i2_9 98 ∧ vp_in i2_9 98 ∧ wp_Order_numberFor row_3 above_4 number_10 least_7 weight_8 count_6 (row_3 (ix i2_9)) (fun r_14 => vp_in (row_3 (ix i2_9)) 98 ∧ ∀ number_15 : Nat → Int32, number_15 = upd number_10 (ix (row_3 (ix i2_9))) r_14 → K_11 (i2_9 + 1) number_15))) n 0 number)))
set_option maxHeartbeats 4000000 in
set_option maxRecDepth 100000 in
theorem bd_Order_follow {p : Program} {l : Launch} {e : Env} {R : Room} {s : State} {m : MethodId} {args : Array Value} {below : List Frame} {meth : Method} {c : Code} {D : va_G} {A B : Nat → Prop} {Q : State → Prop} {cI cJ cZ : ClassId} {a_t a_row a_above a_sideUp a_number a_least a_weight a_p1 a_p1_firstEnd a_p1_secondEnd a_p1_home a_p1_kindOf a_p1_startAt a_p1_links : Nat} {row : Nat → Int32} {above : Nat → Int32} {sideUp : Nat → Int32} {number : Nat → Int32} {least : Nat → Int32} {weight : Nat → Int32} {count : Int32} {p1_home : Nat → Int32} {p1_slots : Int32} {p1_count : Int32}  (K : sk_C p s m args meth c c_Order_follow 3 "SkeletonTree$Order" D (tyl cI cJ cZ)) (hR1 : 2 ≤ R.frames) (hR2 : 46 ≤ R.locals) (hBA : ∀ q : Nat, B q → A q) {post : (Nat → Int32) → (Nat → Int32) → (Nat → Int32) → (Nat → Int32) → (Nat → Int32) → (Nat → Int32) → Int32 → Prop} (hend : ∀ (ti pc : Nat)  (y0 : Nat → Int32) (y1 : Nat → Int32) (y2 : Nat → Int32) (y3 : Nat → Int32) (y4 : Nat → Int32) (y5 : Nat → Int32) (y6 : Int32) (lv : List (Nat × Value)), t_Order_follow[ti]? = some (pc, .return_, 1) → post  y0 y1 y2 y3 y4 y5 y6 → AW p l e R s m args below meth c D A B 3 Q 0 0 (w_Order_follow cI cJ cZ a_t a_row a_above a_sideUp a_number a_least a_weight a_p1 a_p1_firstEnd a_p1_secondEnd a_p1_home a_p1_kindOf a_p1_startAt a_p1_links y0 y1 y2 y3 y4 y5 y6 p1_home p1_slots p1_count) lv pc []) (h : wp_Order_follow row above sideUp number least weight count p1_home p1_slots post) : AW p l e R s m args below meth c D A B 3 Q 0 0 (w_Order_follow cI cJ cZ a_t a_row a_above a_sideUp a_number a_least a_weight a_p1 a_p1_firstEnd a_p1_secondEnd a_p1_home a_p1_kindOf a_p1_startAt a_p1_links row above sideUp number least weight count p1_home p1_slots p1_count) [(0, .ref a_t), (1, .ref a_p1)] 0 [] := by
  unfold wp_Order_follow at h
  refine A_aload_n K d_Order_follow 0 0 (pc' := 1) rfl rfl rfl rfl ?_
  refine A_aload_n K d_Order_follow 1 1 (pc' := 2) rfl rfl rfl rfl ?_
  refine C_Vv2 K hBA d_Order_follow 2 [0, 1, 5, 7, 8] [some 0, some 1, none, none, none, some 2, none, some 3, some 4] (As := [.ref a_p1]) (rest := []) (pc' := 5) (wl := fun row_1 least_2 => w_Order_findLeastEdges cI cJ cZ a_t a_row a_above a_sideUp a_number a_least a_weight a_p1 a_p1_firstEnd a_p1_secondEnd a_p1_home a_p1_kindOf a_p1_startAt a_p1_links row_1 least_2 count p1_home p1_slots p1_count) (ws' := fun row_1 least_2 => w_Order_follow cI cJ cZ a_t a_row a_above a_sideUp a_number a_least a_weight a_p1 a_p1_firstEnd a_p1_secondEnd a_p1_home a_p1_kindOf a_p1_startAt a_p1_links row_1 above sideUp number least_2 weight count p1_home p1_slots p1_count) v_Order_34 ⟨rfl, rfl, Nat.le_trans (Nat.le_of_ble_eq_true rfl) hR1, Nat.le_trans (Nat.le_of_ble_eq_true rfl) hR2⟩ (fun sz => met_Order_findLeastEdges l D cI cJ cZ a_t a_row a_above a_sideUp a_number a_least a_weight a_p1 a_p1_firstEnd a_p1_secondEnd a_p1_home a_p1_kindOf a_p1_startAt a_p1_links row least count p1_home p1_slots p1_count _ sz) h rfl rfl rfl rfl rfl (fun _ _ => rfl) rfl (by decide) (Nat.le_of_ble_eq_true rfl) ⟨Nat.zero_le _, Nat.zero_le _⟩ (q0 := 0) rfl rfl (fun _ _ => rfl) (fun row_1 least_2 h => ?_)
  refine A_aload_n K d_Order_follow 3 0 (pc' := 6) rfl rfl rfl rfl ?_
  refine A_aload_n K d_Order_follow 4 1 (pc' := 7) rfl rfl rfl rfl ?_
  refine C_Vv4 K hBA d_Order_follow 5 [0, 1, 2, 3, 7, 8] [some 0, some 1, some 2, some 3, none, none, none, some 4, some 5] (As := [.ref a_p1]) (rest := []) (pc' := 10) (wl := fun row_3 above_4 sideUp_5 count_6 => w_Order_layRow cI cJ cZ a_t a_row a_above a_sideUp a_number a_least a_weight a_p1 a_p1_firstEnd a_p1_secondEnd a_p1_home a_p1_kindOf a_p1_startAt a_p1_links row_3 above_4 sideUp_5 count_6 p1_home p1_slots p1_count) (ws' := fun row_3 above_4 sideUp_5 count_6 => w_Order_follow cI cJ cZ a_t a_row a_above a_sideUp a_number a_least a_weight a_p1 a_p1_firstEnd a_p1_secondEnd a_p1_home a_p1_kindOf a_p1_startAt a_p1_links row_3 above_4 sideUp_5 number least_2 weight count_6 p1_home p1_slots p1_count) v_Order_38 ⟨rfl, rfl, Nat.le_trans (Nat.le_of_ble_eq_true rfl) hR1, Nat.le_trans (Nat.le_of_ble_eq_true rfl) hR2⟩ (fun sz => met_Order_layRow l D cI cJ cZ a_t a_row a_above a_sideUp a_number a_least a_weight a_p1 a_p1_firstEnd a_p1_secondEnd a_p1_home a_p1_kindOf a_p1_startAt a_p1_links row_1 above sideUp count p1_home p1_slots p1_count _ sz) h rfl rfl rfl rfl rfl (fun _ _ _ _ => rfl) rfl (by decide) (Nat.le_of_ble_eq_true rfl) ⟨Nat.zero_le _, Nat.zero_le _⟩ (q0 := 0) rfl rfl (fun _ _ _ _ => rfl) (fun row_3 above_4 sideUp_5 count_6 h => ?_)
  refine A_aload_n K d_Order_follow 6 0 (pc' := 11) rfl rfl rfl rfl ?_
  refine C_Vv2 K hBA d_Order_follow 7 [0, 1, 2, 5, 6] [some 0, some 1, some 2, none, none, some 3, some 4, none, none] (As := []) (rest := []) (pc' := 14) (wl := fun least_7 weight_8 => w_Order_sumUp cI cJ cZ a_t a_row a_above a_sideUp a_number a_least a_weight row_3 above_4 least_7 weight_8 count_6) (ws' := fun least_7 weight_8 => w_Order_follow cI cJ cZ a_t a_row a_above a_sideUp a_number a_least a_weight a_p1 a_p1_firstEnd a_p1_secondEnd a_p1_home a_p1_kindOf a_p1_startAt a_p1_links row_3 above_4 sideUp_5 number least_7 weight_8 count_6 p1_home p1_slots p1_count) v_Order_41 ⟨rfl, rfl, Nat.le_trans (Nat.le_of_ble_eq_true rfl) hR1, Nat.le_trans (Nat.le_of_ble_eq_true rfl) hR2⟩ (fun sz => met_Order_sumUp l D cI cJ cZ a_t a_row a_above a_sideUp a_number a_least a_weight row_3 above_4 least_2 weight count_6 _ sz) h rfl rfl rfl rfl rfl (fun _ _ => rfl) rfl (by decide) (Nat.le_of_ble_eq_true rfl) ⟨Nat.zero_le _, Nat.zero_le _⟩ (q0 := 0) rfl rfl (fun _ _ => rfl) (fun least_7 weight_8 h => ?_)
  refine A_iconst K d_Order_follow 8 (pc' := 15) (v := 0) rfl rfl (by decide) ?_
  refine A_istore_n K d_Order_follow 9 (pc' := 16) (lv' := [(2, .int 0), (0, .ref a_t), (1, .ref a_p1)]) rfl rfl rfl (by decide) rfl ?_
  refine A_lv [1, 0] rfl ?_
  obtain ⟨n_13, h⟩ := h
  refine sL2_ind (fun (i2_9 : Int32) (number_10 : Nat → Int32) => AW p l e R s m args below meth c D A B 3 Q 0 0 (w_Order_follow cI cJ cZ a_t a_row a_above a_sideUp a_number a_least a_weight a_p1 a_p1_firstEnd a_p1_secondEnd a_p1_home a_p1_kindOf a_p1_startAt a_p1_links row_3 above_4 sideUp_5 number_10 least_7 weight_8 count_6 p1_home p1_slots p1_count) [(0, .ref a_t), (2, .int i2_9)] 16 []) ?_ n_13 _ _ h
  intro K_11 ih_12 i2_9 number_10 h
  refine A_iload_n K d_Order_follow 10 1 (pc' := 17) rfl rfl rfl rfl ?_
  refine A_aload_n K d_Order_follow 11 0 (pc' := 18) rfl rfl rfl rfl ?_
  refine A_get K d_Order_follow 12 0 fl_Order_30 (pc' := 21) rfl rfl rfl rfl ?_
  refine A_icmp_ge K d_Order_follow 13 51 (pc' := 24) rfl rfl rfl (fun q => ?_) (fun q => ?_)
  · replace h := h.1 q
    exact hend 29 _ _ _ _ _ _ _ _ _ rfl h
  · replace h := h.2 q
    refine A_aload_n K d_Order_follow 14 0 (pc' := 25) rfl rfl rfl rfl ?_
    refine A_get K d_Order_follow 15 0 fl_Order_21 (pc' := 28) rfl rfl rfl rfl ?_
    refine A_aload_n K d_Order_follow 16 0 (pc' := 29) rfl rfl rfl rfl ?_
    refine A_get K d_Order_follow 17 0 fl_Order_9 (pc' := 32) rfl rfl rfl rfl ?_
    refine A_iload_n K d_Order_follow 18 1 (pc' := 33) rfl rfl rfl rfl ?_
    refine A_iald K d_Order_follow 19 1 0 (pc' := 34) rfl rfl rfl rfl h.1 ?_
    replace h := h.2
    refine A_aload_n K d_Order_follow 20 0 (pc' := 35) rfl rfl rfl rfl ?_
    refine A_aload_n K d_Order_follow 21 0 (pc' := 36) rfl rfl rfl rfl ?_
    refine A_get K d_Order_follow 22 0 fl_Order_9 (pc' := 39) rfl rfl rfl rfl ?_
    refine A_iload_n K d_Order_follow 23 1 (pc' := 40) rfl rfl rfl rfl ?_
    refine A_iald K d_Order_follow 24 1 0 (pc' := 41) rfl rfl rfl rfl h.1 ?_
    replace h := h.2
    refine R_callV_i K d_Order_follow 25 [0, 1, 2, 4, 5, 6] (As := [.int (row_3 (ix i2_9))]) (rest := [.int (row_3 (ix i2_9)), .ref a_number]) (pc' := 44) v_Order_44 ⟨rfl, rfl, Nat.le_trans (Nat.le_of_ble_eq_true rfl) hR1, Nat.le_trans (Nat.le_of_ble_eq_true rfl) hR2⟩ (fun sz => met_Order_numberFor l D cI cJ cZ a_t a_row a_above a_sideUp a_number a_least a_weight row_3 above_4 number_10 least_7 weight_8 count_6 (row_3 (ix i2_9)) _ sz) h rfl rfl rfl rfl rfl rfl (Nat.le_of_ble_eq_true rfl) ⟨Nat.zero_le _, Nat.zero_le _⟩ (q0 := 0) rfl rfl (fun r_14 h => ?_)
    refine A_iastN K hBA d_Order_follow 26 4 0 (pc' := 45) (ws' := fun number_15 => w_Order_follow cI cJ cZ a_t a_row a_above a_sideUp a_number a_least a_weight a_p1 a_p1_firstEnd a_p1_secondEnd a_p1_home a_p1_kindOf a_p1_startAt a_p1_links row_3 above_4 sideUp_5 number_15 least_7 weight_8 count_6 p1_home p1_slots p1_count) rfl rfl rfl rfl h.1 (fun _ => rfl) (fun number_15 e_16 => ?_)
    replace h := h.2 number_15 e_16
    refine A_iinc K d_Order_follow 27 1 (pc' := 48) (v := i2_9 + 1) (lv' := [(2, .int (i2_9 + 1)), (0, .ref a_t)]) rfl rfl rfl rfl (by decide) rfl ?_
    refine A_goto K d_Order_follow 28 (pc' := 16) rfl rfl ?_
    refine A_lv [1, 0] rfl ?_
    exact ih_12 _ _ h
theorem met_Order_follow (l : Launch) (D : va_G) (cI cJ cZ : ClassId) (a_t a_row a_above a_sideUp a_number a_least a_weight a_p1 a_p1_firstEnd a_p1_secondEnd a_p1_home a_p1_kindOf a_p1_startAt a_p1_links : Nat) (row : Nat → Int32) (above : Nat → Int32) (sideUp : Nat → Int32) (number : Nat → Int32) (least : Nat → Int32) (weight : Nat → Int32) (count : Int32) (p1_home : Nat → Int32) (p1_slots : Int32) (p1_count : Int32)  (post : (Nat → Int32) → (Nat → Int32) → (Nat → Int32) → (Nat → Int32) → (Nat → Int32) → (Nat → Int32) → Int32 → Prop) (sz : Nat) : Met l y_Order_follow (Cond.code y_Order_follow c_Order_follow 3 (Option.none : Option Jvm.ClassFile.FieldType) :: GW) { frames := 2, cells := 0, slots := 0, locals := 46 } (va_Pc [.ref a_t, .ref a_p1] (fun U => sk_P D (tyl cI cJ cZ) (w_Order_follow cI cJ cZ a_t a_row a_above a_sideUp a_number a_least a_weight a_p1 a_p1_firstEnd a_p1_secondEnd a_p1_home a_p1_kindOf a_p1_startAt a_p1_links row above sideUp number least weight count p1_home p1_slots p1_count) sz U ∧ wp_Order_follow row above sideUp number least weight count p1_home p1_slots post)) (va_Qv (fun (u : (Nat → Int32) × (Nat → Int32) × (Nat → Int32) × (Nat → Int32) × (Nat → Int32) × (Nat → Int32) × Int32) => post  u.1 u.2.1 u.2.2.1 u.2.2.2.1 u.2.2.2.2.1 u.2.2.2.2.2.1 u.2.2.2.2.2.2) (fun u t => sk_B D (tyl cI cJ cZ) (w_Order_follow cI cJ cZ a_t a_row a_above a_sideUp a_number a_least a_weight a_p1 a_p1_firstEnd a_p1_secondEnd a_p1_home a_p1_kindOf a_p1_startAt a_p1_links u.1 u.2.1 u.2.2.1 u.2.2.2.1 u.2.2.2.2.1 u.2.2.2.2.2.1 u.2.2.2.2.2.2 p1_home p1_slots p1_count) (va_A (w_Order_follow cI cJ cZ a_t a_row a_above a_sideUp a_number a_least a_weight a_p1 a_p1_firstEnd a_p1_secondEnd a_p1_home a_p1_kindOf a_p1_startAt a_p1_links row above sideUp number least weight count p1_home p1_slots p1_count) sz) t) (va_A (w_Order_follow cI cJ cZ a_t a_row a_above a_sideUp a_number a_least a_weight a_p1 a_p1_firstEnd a_p1_secondEnd a_p1_home a_p1_kindOf a_p1_startAt a_p1_links row above sideUp number least weight count p1_home p1_slots p1_count) sz)) 0 0 (va_A (w_Order_follow cI cJ cZ a_t a_row a_above a_sideUp a_number a_least a_weight a_p1 a_p1_firstEnd a_p1_secondEnd a_p1_home a_p1_kindOf a_p1_startAt a_p1_links row above sideUp number least weight count p1_home p1_slots p1_count) sz) :=
  sk_intro (by decide) (Nat.le_of_ble_eq_true rfl) (fun p e s m below meth c K hr _ h => bd_Order_follow K (Nat.le_refl _) (Nat.le_refl _) (fun _ z => z) (fun ti pc y0 y1 y2 y3 y4 y5 y6 lv hd hp => A_vret K d_Order_follow ti hr (post := (fun (u : (Nat → Int32) × (Nat → Int32) × (Nat → Int32) × (Nat → Int32) × (Nat → Int32) × (Nat → Int32) × Int32) => post  u.1 u.2.1 u.2.2.1 u.2.2.2.1 u.2.2.2.2.1 u.2.2.2.2.2.1 u.2.2.2.2.2.2)) (wl := fun (u : (Nat → Int32) × (Nat → Int32) × (Nat → Int32) × (Nat → Int32) × (Nat → Int32) × (Nat → Int32) × Int32) => w_Order_follow cI cJ cZ a_t a_row a_above a_sideUp a_number a_least a_weight a_p1 a_p1_firstEnd a_p1_secondEnd a_p1_home a_p1_kindOf a_p1_startAt a_p1_links u.1 u.2.1 u.2.2.1 u.2.2.2.1 u.2.2.2.2.1 u.2.2.2.2.2.1 u.2.2.2.2.2.2 p1_home p1_slots p1_count) (y0, y1, y2, y3, y4, y5, y6) hd hp) h)
