abbrev c_Model_none : ByteArray := prog_7_method_33_code
abbrev y_Model_none : MethodName := { cls := "SkeletonTreeModel", name := "none", desc := "(I)Z" }
abbrev c_Model_kind : ByteArray := prog_7_method_34_code
abbrev y_Model_kind : MethodName := { cls := "SkeletonTreeModel", name := "kind", desc := "(I)I" }
abbrev c_Model_size : ByteArray := prog_7_method_35_code
abbrev y_Model_size : MethodName := { cls := "SkeletonTreeModel", name := "size", desc := "(I)I" }
abbrev c_Model_points : ByteArray := prog_7_method_36_code
abbrev y_Model_points : MethodName := { cls := "SkeletonTreeModel", name := "points", desc := "(I)I" }
abbrev c_Model_rankOf : ByteArray := prog_7_method_37_code
abbrev y_Model_rankOf : MethodName := { cls := "SkeletonTreeModel", name := "rankOf", desc := "(I)I" }
abbrev c_Model_item : ByteArray := prog_7_method_38_code
abbrev y_Model_item : MethodName := { cls := "SkeletonTreeModel", name := "item", desc := "(II)I" }
abbrev c_Model_up : ByteArray := prog_7_method_39_code
abbrev y_Model_up : MethodName := { cls := "SkeletonTreeModel", name := "up", desc := "(I)I" }
abbrev c_Model_joint : ByteArray := prog_7_method_40_code
abbrev y_Model_joint : MethodName := { cls := "SkeletonTreeModel", name := "joint", desc := "(IZ)I" }
abbrev c_Model_nodeOf : ByteArray := prog_7_method_41_code
abbrev y_Model_nodeOf : MethodName := { cls := "SkeletonTreeModel", name := "nodeOf", desc := "(I)I" }
abbrev c_Model_has : ByteArray := prog_7_method_42_code
abbrev y_Model_has : MethodName := { cls := "SkeletonTreeModel", name := "has", desc := "(II)Z" }
abbrev c_Model_isPair : ByteArray := prog_7_method_43_code
abbrev y_Model_isPair : MethodName := { cls := "SkeletonTreeModel", name := "isPair", desc := "(II)Z" }
abbrev c_Model_comeApart : ByteArray := prog_7_method_44_code
abbrev y_Model_comeApart : MethodName := { cls := "SkeletonTreeModel", name := "comeApart", desc := "(II)Z" }
theorem g_815 : (Jvm.Cond.code ({ cls := "SkeletonTreeModel", name := "none", desc := "(I)Z" } : Jvm.MethodName) prog_7_method_33_code (2 : Nat) (Option.some Jvm.ClassFile.FieldType.boolean)) ∈ GW := gw_of 815 (by decide +kernel) (by decide +kernel)
theorem g_812 : (Jvm.Cond.methodLink "SkeletonTreeModel" (176 : Nat) ({ cls := "SkeletonTreeModel", name := "none", desc := "(I)Z" } : Jvm.MethodName)) ∈ GW := gw_of 812 (by decide +kernel) (by decide +kernel)
theorem g_814 : (Jvm.Cond.instanceMethod ({ cls := "SkeletonTreeModel", name := "none", desc := "(I)Z" } : Jvm.MethodName)) ∈ GW := gw_of 814 (by decide +kernel) (by decide +kernel)
theorem g_44 : (Jvm.Cond.selects "SkeletonTreeModel" ({ cls := "SkeletonTreeModel", name := "none", desc := "(I)Z" } : Jvm.MethodName) ({ cls := "SkeletonTreeModel", name := "none", desc := "(I)Z" } : Jvm.MethodName)) ∈ GW := gw_of 44 (by decide +kernel) (by decide +kernel)
theorem g_831 : (Jvm.Cond.code ({ cls := "SkeletonTreeModel", name := "rankOf", desc := "(I)I" } : Jvm.MethodName) prog_7_method_37_code (2 : Nat) (Option.some Jvm.ClassFile.FieldType.int)) ∈ GW := gw_of 831 (by decide +kernel) (by decide +kernel)
theorem g_828 : (Jvm.Cond.methodLink "SkeletonTreeModel" (179 : Nat) ({ cls := "SkeletonTreeModel", name := "rankOf", desc := "(I)I" } : Jvm.MethodName)) ∈ GW := gw_of 828 (by decide +kernel) (by decide +kernel)
theorem g_830 : (Jvm.Cond.instanceMethod ({ cls := "SkeletonTreeModel", name := "rankOf", desc := "(I)I" } : Jvm.MethodName)) ∈ GW := gw_of 830 (by decide +kernel) (by decide +kernel)
theorem g_45 : (Jvm.Cond.selects "SkeletonTreeModel" ({ cls := "SkeletonTreeModel", name := "rankOf", desc := "(I)I" } : Jvm.MethodName) ({ cls := "SkeletonTreeModel", name := "rankOf", desc := "(I)I" } : Jvm.MethodName)) ∈ GW := gw_of 45 (by decide +kernel) (by decide +kernel)
theorem v_Model_176 : sk_V "SkeletonTreeModel" 176 y_Model_none c_Model_none 2 (Option.some Jvm.ClassFile.FieldType.boolean) 1 "SkeletonTreeModel" := ⟨g_815, g_812, g_814, g_44, g_52, by decide +kernel⟩
theorem v_Model_179 : sk_V "SkeletonTreeModel" 179 y_Model_rankOf c_Model_rankOf 2 (Option.some Jvm.ClassFile.FieldType.int) 1 "SkeletonTreeModel" := ⟨g_831, g_828, g_830, g_45, g_52, by decide +kernel⟩
/-! SkeletonTreeModel.none(I)Z -/
def t_Model_none : List (Nat × Instr × Nat) := [(0, .aload_n 0, 1), (1, .aload_n 0, 1), (2, .getfield 74, 3), (5, .ifCond .ne 7, 3), (8, .iconst 1, 1), (9, .goto 4, 3), (12, .iconst 0, 1), (13, .aload_n 0, 1), (14, .getfield 74, 3), (17, .ifCond .eq 19, 3), (20, .iload_n 1, 1), (21, .ifCond .lt 11, 3), (24, .iload_n 1, 1), (25, .aload_n 0, 1), (26, .getfield 146, 3), (29, .if_icmp .lt 7, 3), (32, .iconst 1, 1), (33, .goto 4, 3), (36, .iconst 0, 1), (37, .invokevirtual 70, 3), (40, .ireturn, 1)]
set_option maxRecDepth 100000 in
theorem d_Model_none : sk_T c_Model_none t_Model_none := by unfold sk_T t_Model_none; decide +kernel
def w_Model_none (cI cJ cZ : ClassId) (a_t a_ends a_there a_one a_two a_what a_piece a_kinds a_group a_many a_pieceOf a_numberOf a_ups a_jointUp a_partner a_beyonds a_gone : Nat) (thrown : Int32) (made : Int32) (tree : Int32) (items : Int32) (pieces : Int32) (joints : Int32) (nodes : Int32) : va_W := [(a_t, .inr (5, [.int thrown, .int made, .ref a_ends, .ref a_there, .int tree, .int items, .ref a_one, .ref a_two, .ref a_what, .ref a_piece, .int pieces, .int joints, .ref a_kinds, .ref a_group, .ref a_many, .int nodes, .ref a_pieceOf, .ref a_numberOf, .ref a_ups, .ref a_jointUp, .ref a_partner, .ref a_beyonds, .ref a_gone]))]
def wp_Model_none  (thrown : Int32) (tree : Int32) (nodes : Int32) (x1 : Int32) (post : Int32 → Int32 → Prop) : Prop :=
  jn1 (fun (z_1 : Int32) => (tree = 0 → wp_Model_refused thrown z_1 0 (fun r_5 thrown_4 => sk_b r_5 ∧ post r_5 thrown_4)) ∧ (¬ tree = 0 → (x1 < 0 → wp_Model_refused thrown z_1 1 (fun r_7 thrown_6 => sk_b r_7 ∧ post r_7 thrown_6)) ∧ (¬ x1 < 0 → (x1 < nodes → wp_Model_refused thrown z_1 0 (fun r_9 thrown_8 => sk_b r_9 ∧ post r_9 thrown_8)) ∧ (¬ x1 < nodes → wp_Model_refused thrown z_1 1 (fun r_11 thrown_10 => sk_b r_11 ∧ post r_11 thrown_10))))) (fun (J_2 : Int32 → Prop) => (¬ tree = 0 → J_2 0) ∧ (tree = 0 → J_2 1))
set_option maxHeartbeats 4000000 in
set_option maxRecDepth 100000 in
theorem bd_Model_none {p : Program} {l : Launch} {e : Env} {R : Room} {s : State} {m : MethodId} {args : Array Value} {below : List Frame} {meth : Method} {c : Code} {D : va_G} {A B : Nat → Prop} {Q : State → Prop} {cI cJ cZ : ClassId} {a_t a_ends a_there a_one a_two a_what a_piece a_kinds a_group a_many a_pieceOf a_numberOf a_ups a_jointUp a_partner a_beyonds a_gone : Nat} {thrown : Int32} {made : Int32} {tree : Int32} {items : Int32} {pieces : Int32} {joints : Int32} {nodes : Int32} {x1 : Int32} (K : sk_C p s m args meth c c_Model_none 2 "SkeletonTreeModel" D (tyl cI cJ cZ)) (hR1 : 1 ≤ R.frames) (hR2 : 22 ≤ R.locals) (hBA : ∀ q : Nat, B q → A q) {post : Int32 → Int32 → Prop} (hend : ∀ (ti pc : Nat) (r : Int32) (y0 : Int32) (lv : List (Nat × Value)), t_Model_none[ti]? = some (pc, .ireturn, 1) → sk_b r → post r y0 → AW p l e R s m args below meth c D A B 2 Q 0 0 (w_Model_none cI cJ cZ a_t a_ends a_there a_one a_two a_what a_piece a_kinds a_group a_many a_pieceOf a_numberOf a_ups a_jointUp a_partner a_beyonds a_gone y0 made tree items pieces joints nodes) lv pc [.int r]) (h : wp_Model_none thrown tree nodes x1 post) : AW p l e R s m args below meth c D A B 2 Q 0 0 (w_Model_none cI cJ cZ a_t a_ends a_there a_one a_two a_what a_piece a_kinds a_group a_many a_pieceOf a_numberOf a_ups a_jointUp a_partner a_beyonds a_gone thrown made tree items pieces joints nodes) [(0, .ref a_t), (1, .int x1)] 0 [] := by
  unfold wp_Model_none at h
  refine A_aload_n K d_Model_none 0 0 (pc' := 1) rfl rfl rfl rfl ?_
  refine A_aload_n K d_Model_none 1 0 (pc' := 2) rfl rfl rfl rfl ?_
  refine A_get K d_Model_none 2 0 fl_Model_74 (pc' := 5) rfl rfl rfl rfl ?_
  refine jn1_use (fun (z_1 : Int32) => AW p l e R s m args below meth c D A B 2 Q 0 0 (w_Model_none cI cJ cZ a_t a_ends a_there a_one a_two a_what a_piece a_kinds a_group a_many a_pieceOf a_numberOf a_ups a_jointUp a_partner a_beyonds a_gone thrown made tree items pieces joints nodes) [(0, .ref a_t), (1, .int x1)] 13 [.int z_1, .ref a_t]) h ?_ ?_
  · intro z_1 h
    refine A_aload_n K d_Model_none 7 0 (pc' := 14) rfl rfl rfl rfl ?_
    refine A_get K d_Model_none 8 0 fl_Model_74 (pc' := 17) rfl rfl rfl rfl ?_
    refine A_if_eq K d_Model_none 9 36 (pc' := 20) rfl rfl rfl (fun q => ?_) (fun q => ?_)
    · replace h := h.1 q
      refine A_iconst K d_Model_none 18 (pc' := 37) (v := 0) rfl rfl (by decide) ?_
      refine C_Vi1 K hBA d_Model_none 19 [0] [some 0] (As := [.int z_1, .int 0]) (rest := []) (pc' := 40) (wl := fun thrown_4 => w_Model_refused cI cJ cZ a_t a_ends a_there a_one a_two a_what a_piece a_kinds a_group a_many a_pieceOf a_numberOf a_ups a_jointUp a_partner a_beyonds a_gone thrown_4 made tree items pieces joints nodes) (ws' := fun thrown_4 => w_Model_none cI cJ cZ a_t a_ends a_there a_one a_two a_what a_piece a_kinds a_group a_many a_pieceOf a_numberOf a_ups a_jointUp a_partner a_beyonds a_gone thrown_4 made tree items pieces joints nodes) v_Model_70 ⟨rfl, rfl, Nat.le_trans (Nat.le_of_ble_eq_true rfl) hR1, Nat.le_trans (Nat.le_of_ble_eq_true rfl) hR2⟩ (fun sz => met_Model_refused l D cI cJ cZ a_t a_ends a_there a_one a_two a_what a_piece a_kinds a_group a_many a_pieceOf a_numberOf a_ups a_jointUp a_partner a_beyonds a_gone thrown made tree items pieces joints nodes z_1 0 _ sz) h rfl rfl rfl rfl rfl (fun _ => rfl) rfl (by decide) (Nat.le_of_ble_eq_true rfl) ⟨Nat.zero_le _, Nat.zero_le _⟩ (q0 := 0) rfl rfl (fun _ => rfl) (fun r_5 thrown_4 h => ?_)
      exact hend 20 _ _ _ _ rfl h.1 h.2
    · replace h := h.2 q
      refine A_iload_n K d_Model_none 10 1 (pc' := 21) rfl rfl rfl rfl ?_
      refine A_if_lt K d_Model_none 11 32 (pc' := 24) rfl rfl rfl (fun q => ?_) (fun q => ?_)
      · replace h := h.1 q
        refine A_iconst K d_Model_none 16 (pc' := 33) (v := 1) rfl rfl (by decide) ?_
        refine A_goto K d_Model_none 17 (pc' := 37) rfl rfl ?_
        refine C_Vi1 K hBA d_Model_none 19 [0] [some 0] (As := [.int z_1, .int 1]) (rest := []) (pc' := 40) (wl := fun thrown_6 => w_Model_refused cI cJ cZ a_t a_ends a_there a_one a_two a_what a_piece a_kinds a_group a_many a_pieceOf a_numberOf a_ups a_jointUp a_partner a_beyonds a_gone thrown_6 made tree items pieces joints nodes) (ws' := fun thrown_6 => w_Model_none cI cJ cZ a_t a_ends a_there a_one a_two a_what a_piece a_kinds a_group a_many a_pieceOf a_numberOf a_ups a_jointUp a_partner a_beyonds a_gone thrown_6 made tree items pieces joints nodes) v_Model_70 ⟨rfl, rfl, Nat.le_trans (Nat.le_of_ble_eq_true rfl) hR1, Nat.le_trans (Nat.le_of_ble_eq_true rfl) hR2⟩ (fun sz => met_Model_refused l D cI cJ cZ a_t a_ends a_there a_one a_two a_what a_piece a_kinds a_group a_many a_pieceOf a_numberOf a_ups a_jointUp a_partner a_beyonds a_gone thrown made tree items pieces joints nodes z_1 1 _ sz) h rfl rfl rfl rfl rfl (fun _ => rfl) rfl (by decide) (Nat.le_of_ble_eq_true rfl) ⟨Nat.zero_le _, Nat.zero_le _⟩ (q0 := 0) rfl rfl (fun _ => rfl) (fun r_7 thrown_6 h => ?_)
        exact hend 20 _ _ _ _ rfl h.1 h.2
      · replace h := h.2 q
        refine A_iload_n K d_Model_none 12 1 (pc' := 25) rfl rfl rfl rfl ?_
        refine A_aload_n K d_Model_none 13 0 (pc' := 26) rfl rfl rfl rfl ?_
        refine A_get K d_Model_none 14 0 fl_Model_146 (pc' := 29) rfl rfl rfl rfl ?_
        refine A_icmp_lt K d_Model_none 15 36 (pc' := 32) rfl rfl rfl (fun q => ?_) (fun q => ?_)
        · replace h := h.1 q
          refine A_iconst K d_Model_none 18 (pc' := 37) (v := 0) rfl rfl (by decide) ?_
          refine C_Vi1 K hBA d_Model_none 19 [0] [some 0] (As := [.int z_1, .int 0]) (rest := []) (pc' := 40) (wl := fun thrown_8 => w_Model_refused cI cJ cZ a_t a_ends a_there a_one a_two a_what a_piece a_kinds a_group a_many a_pieceOf a_numberOf a_ups a_jointUp a_partner a_beyonds a_gone thrown_8 made tree items pieces joints nodes) (ws' := fun thrown_8 => w_Model_none cI cJ cZ a_t a_ends a_there a_one a_two a_what a_piece a_kinds a_group a_many a_pieceOf a_numberOf a_ups a_jointUp a_partner a_beyonds a_gone thrown_8 made tree items pieces joints nodes) v_Model_70 ⟨rfl, rfl, Nat.le_trans (Nat.le_of_ble_eq_true rfl) hR1, Nat.le_trans (Nat.le_of_ble_eq_true rfl) hR2⟩ (fun sz => met_Model_refused l D cI cJ cZ a_t a_ends a_there a_one a_two a_what a_piece a_kinds a_group a_many a_pieceOf a_numberOf a_ups a_jointUp a_partner a_beyonds a_gone thrown made tree items pieces joints nodes z_1 0 _ sz) h rfl rfl rfl rfl rfl (fun _ => rfl) rfl (by decide) (Nat.le_of_ble_eq_true rfl) ⟨Nat.zero_le _, Nat.zero_le _⟩ (q0 := 0) rfl rfl (fun _ => rfl) (fun r_9 thrown_8 h => ?_)
          exact hend 20 _ _ _ _ rfl h.1 h.2
        · replace h := h.2 q
          refine A_iconst K d_Model_none 16 (pc' := 33) (v := 1) rfl rfl (by decide) ?_
          refine A_goto K d_Model_none 17 (pc' := 37) rfl rfl ?_
          refine C_Vi1 K hBA d_Model_none 19 [0] [some 0] (As := [.int z_1, .int 1]) (rest := []) (pc' := 40) (wl := fun thrown_10 => w_Model_refused cI cJ cZ a_t a_ends a_there a_one a_two a_what a_piece a_kinds a_group a_many a_pieceOf a_numberOf a_ups a_jointUp a_partner a_beyonds a_gone thrown_10 made tree items pieces joints nodes) (ws' := fun thrown_10 => w_Model_none cI cJ cZ a_t a_ends a_there a_one a_two a_what a_piece a_kinds a_group a_many a_pieceOf a_numberOf a_ups a_jointUp a_partner a_beyonds a_gone thrown_10 made tree items pieces joints nodes) v_Model_70 ⟨rfl, rfl, Nat.le_trans (Nat.le_of_ble_eq_true rfl) hR1, Nat.le_trans (Nat.le_of_ble_eq_true rfl) hR2⟩ (fun sz => met_Model_refused l D cI cJ cZ a_t a_ends a_there a_one a_two a_what a_piece a_kinds a_group a_many a_pieceOf a_numberOf a_ups a_jointUp a_partner a_beyonds a_gone thrown made tree items pieces joints nodes z_1 1 _ sz) h rfl rfl rfl rfl rfl (fun _ => rfl) rfl (by decide) (Nat.le_of_ble_eq_true rfl) ⟨Nat.zero_le _, Nat.zero_le _⟩ (q0 := 0) rfl rfl (fun _ => rfl) (fun r_11 thrown_10 h => ?_)
          exact hend 20 _ _ _ _ rfl h.1 h.2
  · intro J_2 hJ_3 h
    refine A_if_ne K d_Model_none 3 12 (pc' := 8) rfl rfl rfl (fun q => ?_) (fun q => ?_)
    · replace h := h.1 q
      refine A_iconst K d_Model_none 6 (pc' := 13) (v := 0) rfl rfl (by decide) ?_
      refine A_lv [0, 1] rfl ?_
      exact hJ_3 _ h
    · replace h := h.2 q
      refine A_iconst K d_Model_none 4 (pc' := 9) (v := 1) rfl rfl (by decide) ?_
      refine A_goto K d_Model_none 5 (pc' := 13) rfl rfl ?_
      refine A_lv [0, 1] rfl ?_
      exact hJ_3 _ h
theorem met_Model_none (l : Launch) (D : va_G) (cI cJ cZ : ClassId) (a_t a_ends a_there a_one a_two a_what a_piece a_kinds a_group a_many a_pieceOf a_numberOf a_ups a_jointUp a_partner a_beyonds a_gone : Nat) (thrown : Int32) (made : Int32) (tree : Int32) (items : Int32) (pieces : Int32) (joints : Int32) (nodes : Int32) (x1 : Int32) (post : Int32 → Int32 → Prop) (sz : Nat) : Met l y_Model_none (Cond.code y_Model_none c_Model_none 2 (Option.some Jvm.ClassFile.FieldType.boolean) :: GW) { frames := 1, cells := 0, slots := 0, locals := 22 } (va_Pc [.ref a_t, .int x1] (fun U => sk_P D (tyl cI cJ cZ) (w_Model_none cI cJ cZ a_t a_ends a_there a_one a_two a_what a_piece a_kinds a_group a_many a_pieceOf a_numberOf a_ups a_jointUp a_partner a_beyonds a_gone thrown made tree items pieces joints nodes) sz U ∧ wp_Model_none thrown tree nodes x1 post)) (va_Qi (fun (r : Int32) (u : Int32) => post r u) (fun u t => sk_B D (tyl cI cJ cZ) (w_Model_none cI cJ cZ a_t a_ends a_there a_one a_two a_what a_piece a_kinds a_group a_many a_pieceOf a_numberOf a_ups a_jointUp a_partner a_beyonds a_gone u made tree items pieces joints nodes) (va_A (w_Model_none cI cJ cZ a_t a_ends a_there a_one a_two a_what a_piece a_kinds a_group a_many a_pieceOf a_numberOf a_ups a_jointUp a_partner a_beyonds a_gone thrown made tree items pieces joints nodes) sz) t) (va_A (w_Model_none cI cJ cZ a_t a_ends a_there a_one a_two a_what a_piece a_kinds a_group a_many a_pieceOf a_numberOf a_ups a_jointUp a_partner a_beyonds a_gone thrown made tree items pieces joints nodes) sz)) 0 0 (va_A (w_Model_none cI cJ cZ a_t a_ends a_there a_one a_two a_what a_piece a_kinds a_group a_many a_pieceOf a_numberOf a_ups a_jointUp a_partner a_beyonds a_gone thrown made tree items pieces joints nodes) sz) :=
  sk_intro (by decide) (Nat.le_of_ble_eq_true rfl) (fun p e s m below meth c K hr _ h => bd_Model_none K (Nat.le_refl _) (Nat.le_refl _) (fun _ z => z) (fun ti pc r y0 lv hd hb hp => A_zret K d_Model_none ti hr (post := (fun (r : Int32) (u : Int32) => post r u)) (wl := fun (u : Int32) => w_Model_none cI cJ cZ a_t a_ends a_there a_one a_two a_what a_piece a_kinds a_group a_many a_pieceOf a_numberOf a_ups a_jointUp a_partner a_beyonds a_gone u made tree items pieces joints nodes) y0 hd hb hp) h)
/-! SkeletonTreeModel.kind(I)I -/
def t_Model_kind : List (Nat × Instr × Nat) := [(0, .aload_n 0, 1), (1, .iload_n 1, 1), (2, .invokevirtual 176, 3), (5, .ifCond .eq 7, 3), (8, .iconst 0, 1), (9, .goto 14, 3), (12, .aload_n 0, 1), (13, .getfield 29, 3), (16, .aload_n 0, 1), (17, .getfield 38, 3), (20, .iload_n 1, 1), (21, .iaload, 1), (22, .iaload, 1), (23, .ireturn, 1)]
set_option maxRecDepth 100000 in
theorem d_Model_kind : sk_T c_Model_kind t_Model_kind := by unfold sk_T t_Model_kind; decide +kernel
def w_Model_kind (cI cJ cZ : ClassId) (a_t a_ends a_there a_one a_two a_what a_piece a_kinds a_group a_many a_pieceOf a_numberOf a_ups a_jointUp a_partner a_beyonds a_gone : Nat) (thrown : Int32) (made : Int32) (tree : Int32) (items : Int32) (pieces : Int32) (joints : Int32) (kinds : Nat → Int32) (nodes : Int32) (pieceOf : Nat → Int32) : va_W := [(a_t, .inr (5, [.int thrown, .int made, .ref a_ends, .ref a_there, .int tree, .int items, .ref a_one, .ref a_two, .ref a_what, .ref a_piece, .int pieces, .int joints, .ref a_kinds, .ref a_group, .ref a_many, .int nodes, .ref a_pieceOf, .ref a_numberOf, .ref a_ups, .ref a_jointUp, .ref a_partner, .ref a_beyonds, .ref a_gone])), (a_kinds, .inl (cI, 110, .inl kinds)), (a_pieceOf, .inl (cI, 110, .inl pieceOf))]
def wp_Model_kind  (thrown : Int32) (tree : Int32) (kinds : Nat → Int32) (nodes : Int32) (pieceOf : Nat → Int32) (x1 : Int32) (post : Int32 → Int32 → Prop) : Prop :=
  wp_Model_none thrown tree nodes x1 (fun r_2 thrown_1 => (r_2 = 0 → vp_in x1 110 ∧ vp_in (pieceOf (ix x1)) 110 ∧ post (kinds (ix (pieceOf (ix x1)))) thrown_1) ∧ (¬ r_2 = 0 → post 0 thrown_1))
set_option maxHeartbeats 4000000 in
set_option maxRecDepth 100000 in
theorem bd_Model_kind {p : Program} {l : Launch} {e : Env} {R : Room} {s : State} {m : MethodId} {args : Array Value} {below : List Frame} {meth : Method} {c : Code} {D : va_G} {A B : Nat → Prop} {Q : State → Prop} {cI cJ cZ : ClassId} {a_t a_ends a_there a_one a_two a_what a_piece a_kinds a_group a_many a_pieceOf a_numberOf a_ups a_jointUp a_partner a_beyonds a_gone : Nat} {thrown : Int32} {made : Int32} {tree : Int32} {items : Int32} {pieces : Int32} {joints : Int32} {kinds : Nat → Int32} {nodes : Int32} {pieceOf : Nat → Int32} {x1 : Int32} (K : sk_C p s m args meth c c_Model_kind 2 "SkeletonTreeModel" D (tyl cI cJ cZ)) (hR1 : 2 ≤ R.frames) (hR2 : 43 ≤ R.locals) (hBA : ∀ q : Nat, B q → A q) {post : Int32 → Int32 → Prop} (hend : ∀ (ti pc : Nat) (r : Int32) (y0 : Int32) (lv : List (Nat × Value)), t_Model_kind[ti]? = some (pc, .ireturn, 1) → post r y0 → AW p l e R s m args below meth c D A B 2 Q 0 0 (w_Model_kind cI cJ cZ a_t a_ends a_there a_one a_two a_what a_piece a_kinds a_group a_many a_pieceOf a_numberOf a_ups a_jointUp a_partner a_beyonds a_gone y0 made tree items pieces joints kinds nodes pieceOf) lv pc [.int r]) (h : wp_Model_kind thrown tree kinds nodes pieceOf x1 post) : AW p l e R s m args below meth c D A B 2 Q 0 0 (w_Model_kind cI cJ cZ a_t a_ends a_there a_one a_two a_what a_piece a_kinds a_group a_many a_pieceOf a_numberOf a_ups a_jointUp a_partner a_beyonds a_gone thrown made tree items pieces joints kinds nodes pieceOf) [(0, .ref a_t), (1, .int x1)] 0 [] := by
  unfold wp_Model_kind at h
  refine A_aload_n K d_Model_kind 0 0 (pc' := 1) rfl rfl rfl rfl ?_
  refine A_iload_n K d_Model_kind 1 1 (pc' := 2) rfl rfl rfl rfl ?_
  refine C_Vi1 K hBA d_Model_kind 2 [0] [some 0, none, none] (As := [.int x1]) (rest := []) (pc' := 5) (wl := fun thrown_1 => w_Model_none cI cJ cZ a_t a_ends a_there a_one a_two a_what a_piece a_kinds a_group a_many a_pieceOf a_numberOf a_ups a_jointUp a_partner a_beyonds a_gone thrown_1 made tree items pieces joints nodes) (ws' := fun thrown_1 => w_Model_kind cI cJ cZ a_t a_ends a_there a_one a_two a_what a_piece a_kinds a_group a_many a_pieceOf a_numberOf a_ups a_jointUp a_partner a_beyonds a_gone thrown_1 made tree items pieces joints kinds nodes pieceOf) v_Model_176 ⟨rfl, rfl, Nat.le_trans (Nat.le_of_ble_eq_true rfl) hR1, Nat.le_trans (Nat.le_of_ble_eq_true rfl) hR2⟩ (fun sz => met_Model_none l D cI cJ cZ a_t a_ends a_there a_one a_two a_what a_piece a_kinds a_group a_many a_pieceOf a_numberOf a_ups a_jointUp a_partner a_beyonds a_gone thrown made tree items pieces joints nodes x1 _ sz) h rfl rfl rfl rfl rfl (fun _ => rfl) rfl (by decide) (Nat.le_of_ble_eq_true rfl) ⟨Nat.zero_le _, Nat.zero_le _⟩ (q0 := 0) rfl rfl (fun _ => rfl) (fun r_2 thrown_1 h => ?_)
  refine A_if_eq K d_Model_kind 3 12 (pc' := 8) rfl rfl rfl (fun q => ?_) (fun q => ?_)
  · replace h := h.1 q
    refine A_aload_n K d_Model_kind 6 0 (pc' := 13) rfl rfl rfl rfl ?_
    refine A_get K d_Model_kind 7 0 fl_Model_29 (pc' := 16) rfl rfl rfl rfl ?_
    refine A_aload_n K d_Model_kind 8 0 (pc' := 17) rfl rfl rfl rfl ?_
    refine A_get K d_Model_kind 9 0 fl_Model_38 (pc' := 20) rfl rfl rfl rfl ?_
    refine A_iload_n K d_Model_kind 10 1 (pc' := 21) rfl rfl rfl rfl ?_
    refine A_iald K d_Model_kind 11 2 0 (pc' := 22) rfl rfl rfl rfl h.1 ?_
    replace h := h.2
    refine A_iald K d_Model_kind 12 1 0 (pc' := 23) rfl rfl rfl rfl h.1 ?_
    replace h := h.2
    exact hend 13 _ _ _ _ rfl h
  · replace h := h.2 q
    refine A_iconst K d_Model_kind 4 (pc' := 9) (v := 0) rfl rfl (by decide) ?_
    refine A_goto K d_Model_kind 5 (pc' := 23) rfl rfl ?_
    exact hend 13 _ _ _ _ rfl h
theorem met_Model_kind (l : Launch) (D : va_G) (cI cJ cZ : ClassId) (a_t a_ends a_there a_one a_two a_what a_piece a_kinds a_group a_many a_pieceOf a_numberOf a_ups a_jointUp a_partner a_beyonds a_gone : Nat) (thrown : Int32) (made : Int32) (tree : Int32) (items : Int32) (pieces : Int32) (joints : Int32) (kinds : Nat → Int32) (nodes : Int32) (pieceOf : Nat → Int32) (x1 : Int32) (post : Int32 → Int32 → Prop) (sz : Nat) : Met l y_Model_kind (Cond.code y_Model_kind c_Model_kind 2 (Option.some Jvm.ClassFile.FieldType.int) :: GW) { frames := 2, cells := 0, slots := 0, locals := 43 } (va_Pc [.ref a_t, .int x1] (fun U => sk_P D (tyl cI cJ cZ) (w_Model_kind cI cJ cZ a_t a_ends a_there a_one a_two a_what a_piece a_kinds a_group a_many a_pieceOf a_numberOf a_ups a_jointUp a_partner a_beyonds a_gone thrown made tree items pieces joints kinds nodes pieceOf) sz U ∧ wp_Model_kind thrown tree kinds nodes pieceOf x1 post)) (va_Qi (fun (r : Int32) (u : Int32) => post r u) (fun u t => sk_B D (tyl cI cJ cZ) (w_Model_kind cI cJ cZ a_t a_ends a_there a_one a_two a_what a_piece a_kinds a_group a_many a_pieceOf a_numberOf a_ups a_jointUp a_partner a_beyonds a_gone u made tree items pieces joints kinds nodes pieceOf) (va_A (w_Model_kind cI cJ cZ a_t a_ends a_there a_one a_two a_what a_piece a_kinds a_group a_many a_pieceOf a_numberOf a_ups a_jointUp a_partner a_beyonds a_gone thrown made tree items pieces joints kinds nodes pieceOf) sz) t) (va_A (w_Model_kind cI cJ cZ a_t a_ends a_there a_one a_two a_what a_piece a_kinds a_group a_many a_pieceOf a_numberOf a_ups a_jointUp a_partner a_beyonds a_gone thrown made tree items pieces joints kinds nodes pieceOf) sz)) 0 0 (va_A (w_Model_kind cI cJ cZ a_t a_ends a_there a_one a_two a_what a_piece a_kinds a_group a_many a_pieceOf a_numberOf a_ups a_jointUp a_partner a_beyonds a_gone thrown made tree items pieces joints kinds nodes pieceOf) sz) :=
  sk_intro (by decide) (Nat.le_of_ble_eq_true rfl) (fun p e s m below meth c K hr _ h => bd_Model_kind K (Nat.le_refl _) (Nat.le_refl _) (fun _ z => z) (fun ti pc r y0 lv hd hp => A_iret K d_Model_kind ti hr (post := (fun (r : Int32) (u : Int32) => post r u)) (wl := fun (u : Int32) => w_Model_kind cI cJ cZ a_t a_ends a_there a_one a_two a_what a_piece a_kinds a_group a_many a_pieceOf a_numberOf a_ups a_jointUp a_partner a_beyonds a_gone u made tree items pieces joints kinds nodes pieceOf) y0 hd hp) h)
/-! SkeletonTreeModel.size(I)I -/
def t_Model_size : List (Nat × Instr × Nat) := [(0, .aload_n 0, 1), (1, .iload_n 1, 1), (2, .invokevirtual 176, 3), (5, .ifCond .eq 7, 3), (8, .iconst 0, 1), (9, .goto 13, 3), (12, .aload_n 0, 1), (13, .aload_n 0, 1), (14, .getfield 38, 3), (17, .iload_n 1, 1), (18, .iaload, 1), (19, .invokevirtual 116, 3), (22, .ireturn, 1)]
set_option maxRecDepth 100000 in
theorem d_Model_size : sk_T c_Model_size t_Model_size := by unfold sk_T t_Model_size; decide +kernel
def w_Model_size (cI cJ cZ : ClassId) (a_t a_ends a_there a_one a_two a_what a_piece a_kinds a_group a_many a_pieceOf a_numberOf a_ups a_jointUp a_partner a_beyonds a_gone : Nat) (thrown : Int32) (made : Int32) (tree : Int32) (items : Int32) (piece : Nat → Int32) (pieces : Int32) (joints : Int32) (nodes : Int32) (pieceOf : Nat → Int32) : va_W := [(a_t, .inr (5, [.int thrown, .int made, .ref a_ends, .ref a_there, .int tree, .int items, .ref a_one, .ref a_two, .ref a_what, .ref a_piece, .int pieces, .int joints, .ref a_kinds, .ref a_group, .ref a_many, .int nodes, .ref a_pieceOf, .ref a_numberOf, .ref a_ups, .ref a_jointUp, .ref a_partner, .ref a_beyonds, .ref a_gone])), (a_piece, .inl (cI, 320, .inl piece)), (a_pieceOf, .inl (cI, 110, .inl pieceOf))]
def wp_Model_size  (thrown : Int32) (tree : Int32) (items : Int32) (piece : Nat → Int32) (nodes : Int32) (pieceOf : Nat → Int32) (x1 : Int32) (post : Int32 → Int32 → Prop) : Prop :=
  wp_Model_none thrown tree nodes x1 (fun r_2 thrown_1 => (r_2 = 0 → vp_in x1 110 ∧ wp_Model_sizeOf items piece (pieceOf (ix x1)) (fun r_3 => post r_3 thrown_1)) ∧ (¬ r_2 = 0 → post 0 thrown_1))
set_option maxHeartbeats 4000000 in
set_option maxRecDepth 100000 in
theorem bd_Model_size {p : Program} {l : Launch} {e : Env} {R : Room} {s : State} {m : MethodId} {args : Array Value} {below : List Frame} {meth : Method} {c : Code} {D : va_G} {A B : Nat → Prop} {Q : State → Prop} {cI cJ cZ : ClassId} {a_t a_ends a_there a_one a_two a_what a_piece a_kinds a_group a_many a_pieceOf a_numberOf a_ups a_jointUp a_partner a_beyonds a_gone : Nat} {thrown : Int32} {made : Int32} {tree : Int32} {items : Int32} {piece : Nat → Int32} {pieces : Int32} {joints : Int32} {nodes : Int32} {pieceOf : Nat → Int32} {x1 : Int32} (K : sk_C p s m args meth c c_Model_size 2 "SkeletonTreeModel" D (tyl cI cJ cZ)) (hR1 : 2 ≤ R.frames) (hR2 : 43 ≤ R.locals) (hBA : ∀ q : Nat, B q → A q) {post : Int32 → Int32 → Prop} (hend : ∀ (ti pc : Nat) (r : Int32) (y0 : Int32) (lv : List (Nat × Value)), t_Model_size[ti]? = some (pc, .ireturn, 1) → post r y0 → AW p l e R s m args below meth c D A B 2 Q 0 0 (w_Model_size cI cJ cZ a_t a_ends a_there a_one a_two a_what a_piece a_kinds a_group a_many a_pieceOf a_numberOf a_ups a_jointUp a_partner a_beyonds a_gone y0 made tree items piece pieces joints nodes pieceOf) lv pc [.int r]) (h : wp_Model_size thrown tree items piece nodes pieceOf x1 post) : AW p l e R s m args below meth c D A B 2 Q 0 0 (w_Model_size cI cJ cZ a_t a_ends a_there a_one a_two a_what a_piece a_kinds a_group a_many a_pieceOf a_numberOf a_ups a_jointUp a_partner a_beyonds a_gone thrown made tree items piece pieces joints nodes pieceOf) [(0, .ref a_t), (1, .int x1)] 0 [] := by
  unfold wp_Model_size at h
  refine A_aload_n K d_Model_size 0 0 (pc' := 1) rfl rfl rfl rfl ?_
  refine A_iload_n K d_Model_size 1 1 (pc' := 2) rfl rfl rfl rfl ?_
  refine C_Vi1 K hBA d_Model_size 2 [0] [some 0, none, none] (As := [.int x1]) (rest := []) (pc' := 5) (wl := fun thrown_1 => w_Model_none cI cJ cZ a_t a_ends a_there a_one a_two a_what a_piece a_kinds a_group a_many a_pieceOf a_numberOf a_ups a_jointUp a_partner a_beyonds a_gone thrown_1 made tree items pieces joints nodes) (ws' := fun thrown_1 => w_Model_size cI cJ cZ a_t a_ends a_there a_one a_two a_what a_piece a_kinds a_group a_many a_pieceOf a_numberOf a_ups a_jointUp a_partner a_beyonds a_gone thrown_1 made tree items piece pieces joints nodes pieceOf) v_Model_176 ⟨rfl, rfl, Nat.le_trans (Nat.le_of_ble_eq_true rfl) hR1, Nat.le_trans (Nat.le_of_ble_eq_true rfl) hR2⟩ (fun sz => met_Model_none l D cI cJ cZ a_t a_ends a_there a_one a_two a_what a_piece a_kinds a_group a_many a_pieceOf a_numberOf a_ups a_jointUp a_partner a_beyonds a_gone thrown made tree items pieces joints nodes x1 _ sz) h rfl rfl rfl rfl rfl (fun _ => rfl) rfl (by decide) (Nat.le_of_ble_eq_true rfl) ⟨Nat.zero_le _, Nat.zero_le _⟩ (q0 := 0) rfl rfl (fun _ => rfl) (fun r_2 thrown_1 h => ?_)
  refine A_if_eq K d_Model_size 3 12 (pc' := 8) rfl rfl rfl (fun q => ?_) (fun q => ?_)
  · replace h := h.1 q
    refine A_aload_n K d_Model_size 6 0 (pc' := 13) rfl rfl rfl rfl ?_
    refine A_aload_n K d_Model_size 7 0 (pc' := 14) rfl rfl rfl rfl ?_
    refine A_get K d_Model_size 8 0 fl_Model_38 (pc' := 17) rfl rfl rfl rfl ?_
    refine A_iload_n K d_Model_size 9 1 (pc' := 18) rfl rfl rfl rfl ?_
    refine A_iald K d_Model_size 10 2 0 (pc' := 19) rfl rfl rfl rfl h.1 ?_
    replace h := h.2
    refine R_callV_i K d_Model_size 11 [0, 1] (As := [.int (pieceOf (ix x1))]) (rest := []) (pc' := 22) v_Model_116 ⟨rfl, rfl, Nat.le_trans (Nat.le_of_ble_eq_true rfl) hR1, Nat.le_trans (Nat.le_of_ble_eq_true rfl) hR2⟩ (fun sz => met_Model_sizeOf l D cI cJ cZ a_t a_ends a_there a_one a_two a_what a_piece a_kinds a_group a_many a_pieceOf a_numberOf a_ups a_jointUp a_partner a_beyonds a_gone thrown_1 made tree items piece pieces joints nodes (pieceOf (ix x1)) _ sz) h rfl rfl rfl rfl rfl rfl (Nat.le_of_ble_eq_true rfl) ⟨Nat.zero_le _, Nat.zero_le _⟩ (q0 := 0) rfl rfl (fun r_3 h => ?_)
    exact hend 12 _ _ _ _ rfl h
  · replace h := h.2 q
    refine A_iconst K d_Model_size 4 (pc' := 9) (v := 0) rfl rfl (by decide) ?_
    refine A_goto K d_Model_size 5 (pc' := 22) rfl rfl ?_
    exact hend 12 _ _ _ _ rfl h
theorem met_Model_size (l : Launch) (D : va_G) (cI cJ cZ : ClassId) (a_t a_ends a_there a_one a_two a_what a_piece a_kinds a_group a_many a_pieceOf a_numberOf a_ups a_jointUp a_partner a_beyonds a_gone : Nat) (thrown : Int32) (made : Int32) (tree : Int32) (items : Int32) (piece : Nat → Int32) (pieces : Int32) (joints : Int32) (nodes : Int32) (pieceOf : Nat → Int32) (x1 : Int32) (post : Int32 → Int32 → Prop) (sz : Nat) : Met l y_Model_size (Cond.code y_Model_size c_Model_size 2 (Option.some Jvm.ClassFile.FieldType.int) :: GW) { frames := 2, cells := 0, slots := 0, locals := 43 } (va_Pc [.ref a_t, .int x1] (fun U => sk_P D (tyl cI cJ cZ) (w_Model_size cI cJ cZ a_t a_ends a_there a_one a_two a_what a_piece a_kinds a_group a_many a_pieceOf a_numberOf a_ups a_jointUp a_partner a_beyonds a_gone thrown made tree items piece pieces joints nodes pieceOf) sz U ∧ wp_Model_size thrown tree items piece nodes pieceOf x1 post)) (va_Qi (fun (r : Int32) (u : Int32) => post r u) (fun u t => sk_B D (tyl cI cJ cZ) (w_Model_size cI cJ cZ a_t a_ends a_there a_one a_two a_what a_piece a_kinds a_group a_many a_pieceOf a_numberOf a_ups a_jointUp a_partner a_beyonds a_gone u made tree items piece pieces joints nodes pieceOf) (va_A (w_Model_size cI cJ cZ a_t a_ends a_there a_one a_two a_what a_piece a_kinds a_group a_many a_pieceOf a_numberOf a_ups a_jointUp a_partner a_beyonds a_gone thrown made tree items piece pieces joints nodes pieceOf) sz) t) (va_A (w_Model_size cI cJ cZ a_t a_ends a_there a_one a_two a_what a_piece a_kinds a_group a_many a_pieceOf a_numberOf a_ups a_jointUp a_partner a_beyonds a_gone thrown made tree items piece pieces joints nodes pieceOf) sz)) 0 0 (va_A (w_Model_size cI cJ cZ a_t a_ends a_there a_one a_two a_what a_piece a_kinds a_group a_many a_pieceOf a_numberOf a_ups a_jointUp a_partner a_beyonds a_gone thrown made tree items piece pieces joints nodes pieceOf) sz) :=
  sk_intro (by decide) (Nat.le_of_ble_eq_true rfl) (fun p e s m below meth c K hr _ h => bd_Model_size K (Nat.le_refl _) (Nat.le_refl _) (fun _ z => z) (fun ti pc r y0 lv hd hp => A_iret K d_Model_size ti hr (post := (fun (r : Int32) (u : Int32) => post r u)) (wl := fun (u : Int32) => w_Model_size cI cJ cZ a_t a_ends a_there a_one a_two a_what a_piece a_kinds a_group a_many a_pieceOf a_numberOf a_ups a_jointUp a_partner a_beyonds a_gone u made tree items piece pieces joints nodes pieceOf) y0 hd hp) h)
/-! SkeletonTreeModel.points(I)I -/
def t_Model_points : List (Nat × Instr × Nat) := [(0, .aload_n 0, 1), (1, .iload_n 1, 1), (2, .invokevirtual 176, 3), (5, .ifCond .eq 7, 3), (8, .iconst 0, 1), (9, .goto 13, 3), (12, .aload_n 0, 1), (13, .aload_n 0, 1), (14, .getfield 38, 3), (17, .iload_n 1, 1), (18, .iaload, 1), (19, .invokevirtual 163, 3), (22, .ireturn, 1)]
set_option maxRecDepth 100000 in
theorem d_Model_points : sk_T c_Model_points t_Model_points := by unfold sk_T t_Model_points; decide +kernel
def w_Model_points (cI cJ cZ : ClassId) (a_t a_ends a_there a_one a_two a_what a_piece a_kinds a_group a_many a_pieceOf a_numberOf a_ups a_jointUp a_partner a_beyonds a_gone : Nat) (thrown : Int32) (made : Int32) (tree : Int32) (items : Int32) (one : Nat → Int32) (two : Nat → Int32) (piece : Nat → Int32) (pieces : Int32) (joints : Int32) (nodes : Int32) (pieceOf : Nat → Int32) : va_W := [(a_t, .inr (5, [.int thrown, .int made, .ref a_ends, .ref a_there, .int tree, .int items, .ref a_one, .ref a_two, .ref a_what, .ref a_piece, .int pieces, .int joints, .ref a_kinds, .ref a_group, .ref a_many, .int nodes, .ref a_pieceOf, .ref a_numberOf, .ref a_ups, .ref a_jointUp, .ref a_partner, .ref a_beyonds, .ref a_gone])), (a_one, .inl (cI, 320, .inl one)), (a_two, .inl (cI, 320, .inl two)), (a_piece, .inl (cI, 320, .inl piece)), (a_pieceOf, .inl (cI, 110, .inl pieceOf))]
def wp_Model_points  (thrown : Int32) (tree : Int32) (items : Int32) (one : Nat → Int32) (two : Nat → Int32) (piece : Nat → Int32) (nodes : Int32) (pieceOf : Nat → Int32) (x1 : Int32) (post : Int32 → Int32 → Prop) : Prop :=
  wp_Model_none thrown tree nodes x1 (fun r_2 thrown_1 => (r_2 = 0 → vp_in x1 110 ∧ wp_Model_pointsOf items one two piece (pieceOf (ix x1)) (fun r_3 => post r_3 thrown_1)) ∧ (¬ r_2 = 0 → post 0 thrown_1))
set_option maxHeartbeats 4000000 in
set_option maxRecDepth 100000 in
theorem bd_Model_points {p : Program} {l : Launch} {e : Env} {R : Room} {s : State} {m : MethodId} {args : Array Value} {below : List Frame} {meth : Method} {c : Code} {D : va_G} {A B : Nat → Prop} {Q : State → Prop} {cI cJ cZ : ClassId} {a_t a_ends a_there a_one a_two a_what a_piece a_kinds a_group a_many a_pieceOf a_numberOf a_ups a_jointUp a_partner a_beyonds a_gone : Nat} {thrown : Int32} {made : Int32} {tree : Int32} {items : Int32} {one : Nat → Int32} {two : Nat → Int32} {piece : Nat → Int32} {pieces : Int32} {joints : Int32} {nodes : Int32} {pieceOf : Nat → Int32} {x1 : Int32} (K : sk_C p s m args meth c c_Model_points 2 "SkeletonTreeModel" D (tyl cI cJ cZ)) (hR1 : 3 ≤ R.frames) (hR2 : 68 ≤ R.locals) (hBA : ∀ q : Nat, B q → A q) {post : Int32 → Int32 → Prop} (hend : ∀ (ti pc : Nat) (r : Int32) (y0 : Int32) (lv : List (Nat × Value)), t_Model_points[ti]? = some (pc, .ireturn, 1) → post r y0 → AW p l e R s m args below meth c D A B 2 Q 0 0 (w_Model_points cI cJ cZ a_t a_ends a_there a_one a_two a_what a_piece a_kinds a_group a_many a_pieceOf a_numberOf a_ups a_jointUp a_partner a_beyonds a_gone y0 made tree items one two piece pieces joints nodes pieceOf) lv pc [.int r]) (h : wp_Model_points thrown tree items one two piece nodes pieceOf x1 post) : AW p l e R s m args below meth c D A B 2 Q 0 0 (w_Model_points cI cJ cZ a_t a_ends a_there a_one a_two a_what a_piece a_kinds a_group a_many a_pieceOf a_numberOf a_ups a_jointUp a_partner a_beyonds a_gone thrown made tree items one two piece pieces joints nodes pieceOf) [(0, .ref a_t), (1, .int x1)] 0 [] := by
  unfold wp_Model_points at h
  refine A_aload_n K d_Model_points 0 0 (pc' := 1) rfl rfl rfl rfl ?_
  refine A_iload_n K d_Model_points 1 1 (pc' := 2) rfl rfl rfl rfl ?_
  refine C_Vi1 K hBA d_Model_points 2 [0] [some 0, none, none, none, none] (As := [.int x1]) (rest := []) (pc' := 5) (wl := fun thrown_1 => w_Model_none cI cJ cZ a_t a_ends a_there a_one a_two a_what a_piece a_kinds a_group a_many a_pieceOf a_numberOf a_ups a_jointUp a_partner a_beyonds a_gone thrown_1 made tree items pieces joints nodes) (ws' := fun thrown_1 => w_Model_points cI cJ cZ a_t a_ends a_there a_one a_two a_what a_piece a_kinds a_group a_many a_pieceOf a_numberOf a_ups a_jointUp a_partner a_beyonds a_gone thrown_1 made tree items one two piece pieces joints nodes pieceOf) v_Model_176 ⟨rfl, rfl, Nat.le_trans (Nat.le_of_ble_eq_true rfl) hR1, Nat.le_trans (Nat.le_of_ble_eq_true rfl) hR2⟩ (fun sz => met_Model_none l D cI cJ cZ a_t a_ends a_there a_one a_two a_what a_piece a_kinds a_group a_many a_pieceOf a_numberOf a_ups a_jointUp a_partner a_beyonds a_gone thrown made tree items pieces joints nodes x1 _ sz) h rfl rfl rfl rfl rfl (fun _ => rfl) rfl (by decide) (Nat.le_of_ble_eq_true rfl) ⟨Nat.zero_le _, Nat.zero_le _⟩ (q0 := 0) rfl rfl (fun _ => rfl) (fun r_2 thrown_1 h => ?_)
  refine A_if_eq K d_Model_points 3 12 (pc' := 8) rfl rfl rfl (fun q => ?_) (fun q => ?_)
  · replace h := h.1 q
    refine A_aload_n K d_Model_points 6 0 (pc' := 13) rfl rfl rfl rfl ?_
    refine A_aload_n K d_Model_points 7 0 (pc' := 14) rfl rfl rfl rfl ?_
    refine A_get K d_Model_points 8 0 fl_Model_38 (pc' := 17) rfl rfl rfl rfl ?_
    refine A_iload_n K d_Model_points 9 1 (pc' := 18) rfl rfl rfl rfl ?_
    refine A_iald K d_Model_points 10 4 0 (pc' := 19) rfl rfl rfl rfl h.1 ?_
    replace h := h.2
    refine R_callV_i K d_Model_points 11 [0, 1, 2, 3] (As := [.int (pieceOf (ix x1))]) (rest := []) (pc' := 22) v_Model_163 ⟨rfl, rfl, Nat.le_trans (Nat.le_of_ble_eq_true rfl) hR1, Nat.le_trans (Nat.le_of_ble_eq_true rfl) hR2⟩ (fun sz => met_Model_pointsOf l D cI cJ cZ a_t a_ends a_there a_one a_two a_what a_piece a_kinds a_group a_many a_pieceOf a_numberOf a_ups a_jointUp a_partner a_beyonds a_gone thrown_1 made tree items one two piece pieces joints nodes (pieceOf (ix x1)) _ sz) h rfl rfl rfl rfl rfl rfl (Nat.le_of_ble_eq_true rfl) ⟨Nat.zero_le _, Nat.zero_le _⟩ (q0 := 0) rfl rfl (fun r_3 h => ?_)
    exact hend 12 _ _ _ _ rfl h
  · replace h := h.2 q
    refine A_iconst K d_Model_points 4 (pc' := 9) (v := 0) rfl rfl (by decide) ?_
    refine A_goto K d_Model_points 5 (pc' := 22) rfl rfl ?_
    exact hend 12 _ _ _ _ rfl h
theorem met_Model_points (l : Launch) (D : va_G) (cI cJ cZ : ClassId) (a_t a_ends a_there a_one a_two a_what a_piece a_kinds a_group a_many a_pieceOf a_numberOf a_ups a_jointUp a_partner a_beyonds a_gone : Nat) (thrown : Int32) (made : Int32) (tree : Int32) (items : Int32) (one : Nat → Int32) (two : Nat → Int32) (piece : Nat → Int32) (pieces : Int32) (joints : Int32) (nodes : Int32) (pieceOf : Nat → Int32) (x1 : Int32) (post : Int32 → Int32 → Prop) (sz : Nat) : Met l y_Model_points (Cond.code y_Model_points c_Model_points 2 (Option.some Jvm.ClassFile.FieldType.int) :: GW) { frames := 3, cells := 0, slots := 0, locals := 68 } (va_Pc [.ref a_t, .int x1] (fun U => sk_P D (tyl cI cJ cZ) (w_Model_points cI cJ cZ a_t a_ends a_there a_one a_two a_what a_piece a_kinds a_group a_many a_pieceOf a_numberOf a_ups a_jointUp a_partner a_beyonds a_gone thrown made tree items one two piece pieces joints nodes pieceOf) sz U ∧ wp_Model_points thrown tree items one two piece nodes pieceOf x1 post)) (va_Qi (fun (r : Int32) (u : Int32) => post r u) (fun u t => sk_B D (tyl cI cJ cZ) (w_Model_points cI cJ cZ a_t a_ends a_there a_one a_two a_what a_piece a_kinds a_group a_many a_pieceOf a_numberOf a_ups a_jointUp a_partner a_beyonds a_gone u made tree items one two piece pieces joints nodes pieceOf) (va_A (w_Model_points cI cJ cZ a_t a_ends a_there a_one a_two a_what a_piece a_kinds a_group a_many a_pieceOf a_numberOf a_ups a_jointUp a_partner a_beyonds a_gone thrown made tree items one two piece pieces joints nodes pieceOf) sz) t) (va_A (w_Model_points cI cJ cZ a_t a_ends a_there a_one a_two a_what a_piece a_kinds a_group a_many a_pieceOf a_numberOf a_ups a_jointUp a_partner a_beyonds a_gone thrown made tree items one two piece pieces joints nodes pieceOf) sz)) 0 0 (va_A (w_Model_points cI cJ cZ a_t a_ends a_there a_one a_two a_what a_piece a_kinds a_group a_many a_pieceOf a_numberOf a_ups a_jointUp a_partner a_beyonds a_gone thrown made tree items one two piece pieces joints nodes pieceOf) sz) :=
  sk_intro (by decide) (Nat.le_of_ble_eq_true rfl) (fun p e s m below meth c K hr _ h => bd_Model_points K (Nat.le_refl _) (Nat.le_refl _) (fun _ z => z) (fun ti pc r y0 lv hd hp => A_iret K d_Model_points ti hr (post := (fun (r : Int32) (u : Int32) => post r u)) (wl := fun (u : Int32) => w_Model_points cI cJ cZ a_t a_ends a_there a_one a_two a_what a_piece a_kinds a_group a_many a_pieceOf a_numberOf a_ups a_jointUp a_partner a_beyonds a_gone u made tree items one two piece pieces joints nodes pieceOf) y0 hd hp) h)
/-! SkeletonTreeModel.rankOf(I)I -/
def t_Model_rankOf : List (Nat × Instr × Nat) := [(0, .aload_n 0, 1), (1, .getfield 23, 3), (4, .iload_n 1, 1), (5, .iaload, 1), (6, .ifCond .lt 12, 3), (9, .aload_n 0, 1), (10, .getfield 23, 3), (13, .iload_n 1, 1), (14, .iaload, 1), (15, .goto 16, 3), (18, .bipush 100, 2), (20, .aload_n 0, 1), (21, .getfield 41, 3), (24, .aload_n 0, 1), (25, .iload_n 1, 1), (26, .invokevirtual 143, 3), (29, .iaload, 1), (30, .iadd, 1), (31, .ireturn, 1)]
set_option maxRecDepth 100000 in
theorem d_Model_rankOf : sk_T c_Model_rankOf t_Model_rankOf := by unfold sk_T t_Model_rankOf; decide +kernel
def w_Model_rankOf (cI cJ cZ : ClassId) (a_t a_ends a_there a_one a_two a_what a_piece a_kinds a_group a_many a_pieceOf a_numberOf a_ups a_jointUp a_partner a_beyonds a_gone : Nat) (thrown : Int32) (made : Int32) (tree : Int32) (items : Int32) (what : Nat → Int32) (piece : Nat → Int32) (pieces : Int32) (joints : Int32) (nodes : Int32) (numberOf : Nat → Int32) (partner : Nat → Int32) : va_W := [(a_t, .inr (5, [.int thrown, .int made, .ref a_ends, .ref a_there, .int tree, .int items, .ref a_one, .ref a_two, .ref a_what, .ref a_piece, .int pieces, .int joints, .ref a_kinds, .ref a_group, .ref a_many, .int nodes, .ref a_pieceOf, .ref a_numberOf, .ref a_ups, .ref a_jointUp, .ref a_partner, .ref a_beyonds, .ref a_gone])), (a_what, .inl (cI, 320, .inl what)), (a_piece, .inl (cI, 320, .inl piece)), (a_numberOf, .inl (cI, 110, .inl numberOf)), (a_partner, .inl (cI, 320, .inl partner))]
def wp_Model_rankOf  (what : Nat → Int32) (piece : Nat → Int32) (numberOf : Nat → Int32) (partner : Nat → Int32) (x1 : Int32) (post : Int32 → Prop) : Prop :=
  vp_in x1 320 ∧ ((what (ix x1)) < 0 → wp_Model_beyond piece partner x1 (fun r_1 => vp_in r_1 110 ∧ post (100 + (numberOf (ix r_1))) )) ∧ (¬ (what (ix x1)) < 0 → vp_in x1 320 ∧ post (what (ix x1)) )
set_option maxHeartbeats 4000000 in
set_option maxRecDepth 100000 in
theorem bd_Model_rankOf {p : Program} {l : Launch} {e : Env} {R : Room} {s : State} {m : MethodId} {args : Array Value} {below : List Frame} {meth : Method} {c : Code} {D : va_G} {A B : Nat → Prop} {Q : State → Prop} {cI cJ cZ : ClassId} {a_t a_ends a_there a_one a_two a_what a_piece a_kinds a_group a_many a_pieceOf a_numberOf a_ups a_jointUp a_partner a_beyonds a_gone : Nat} {thrown : Int32} {made : Int32} {tree : Int32} {items : Int32} {what : Nat → Int32} {piece : Nat → Int32} {pieces : Int32} {joints : Int32} {nodes : Int32} {numberOf : Nat → Int32} {partner : Nat → Int32} {x1 : Int32} (K : sk_C p s m args meth c c_Model_rankOf 2 "SkeletonTreeModel" D (tyl cI cJ cZ)) (hR1 : 1 ≤ R.frames) (hR2 : 21 ≤ R.locals) {post : Int32 → Prop} (hend : ∀ (ti pc : Nat) (r : Int32)  (lv : List (Nat × Value)), t_Model_rankOf[ti]? = some (pc, .ireturn, 1) → post r  → AW p l e R s m args below meth c D A B 2 Q 0 0 (w_Model_rankOf cI cJ cZ a_t a_ends a_there a_one a_two a_what a_piece a_kinds a_group a_many a_pieceOf a_numberOf a_ups a_jointUp a_partner a_beyonds a_gone thrown made tree items what piece pieces joints nodes numberOf partner) lv pc [.int r]) (h : wp_Model_rankOf what piece numberOf partner x1 post) : AW p l e R s m args below meth c D A B 2 Q 0 0 (w_Model_rankOf cI cJ cZ a_t a_ends a_there a_one a_two a_what a_piece a_kinds a_group a_many a_pieceOf a_numberOf a_ups a_jointUp a_partner a_beyonds a_gone thrown made tree items what piece pieces joints nodes numberOf partner) [(0, .ref a_t), (1, .int x1)] 0 [] := by
  unfold wp_Model_rankOf at h
  refine A_aload_n K d_Model_rankOf 0 0 (pc' := 1) rfl rfl rfl rfl ?_
  refine A_get K d_Model_rankOf 1 0 fl_Model_23 (pc' := 4) rfl rfl rfl rfl ?_
  refine A_iload_n K d_Model_rankOf 2 1 (pc' := 5) rfl rfl rfl rfl ?_
  refine A_iald K d_Model_rankOf 3 1 0 (pc' := 6) rfl rfl rfl rfl h.1 ?_
  replace h := h.2
  refine A_if_lt K d_Model_rankOf 4 18 (pc' := 9) rfl rfl rfl (fun q => ?_) (fun q => ?_)
  · replace h := h.1 q
    refine A_bipush K d_Model_rankOf 10 (pc' := 20) (v := 100) rfl rfl (by decide) ?_
    refine A_aload_n K d_Model_rankOf 11 0 (pc' := 21) rfl rfl rfl rfl ?_
    refine A_get K d_Model_rankOf 12 0 fl_Model_41 (pc' := 24) rfl rfl rfl rfl ?_
    refine A_aload_n K d_Model_rankOf 13 0 (pc' := 25) rfl rfl rfl rfl ?_
    refine A_iload_n K d_Model_rankOf 14 1 (pc' := 26) rfl rfl rfl rfl ?_
    refine R_callV_i K d_Model_rankOf 15 [0, 2, 4] (As := [.int x1]) (rest := [.ref a_numberOf, .int 100]) (pc' := 29) v_Model_143 ⟨rfl, rfl, Nat.le_trans (Nat.le_of_ble_eq_true rfl) hR1, Nat.le_trans (Nat.le_of_ble_eq_true rfl) hR2⟩ (fun sz => met_Model_beyond l D cI cJ cZ a_t a_ends a_there a_one a_two a_what a_piece a_kinds a_group a_many a_pieceOf a_numberOf a_ups a_jointUp a_partner a_beyonds a_gone thrown made tree items piece pieces joints nodes partner x1 _ sz) h rfl rfl rfl rfl rfl rfl (Nat.le_of_ble_eq_true rfl) ⟨Nat.zero_le _, Nat.zero_le _⟩ (q0 := 0) rfl rfl (fun r_1 h => ?_)
    refine A_iald K d_Model_rankOf 16 3 0 (pc' := 30) rfl rfl rfl rfl h.1 ?_
    replace h := h.2
    refine A_iadd K d_Model_rankOf 17 (pc' := 31) rfl rfl ?_
    exact hend 18 _ _ _ rfl h
  · replace h := h.2 q
    refine A_aload_n K d_Model_rankOf 5 0 (pc' := 10) rfl rfl rfl rfl ?_
    refine A_get K d_Model_rankOf 6 0 fl_Model_23 (pc' := 13) rfl rfl rfl rfl ?_
    refine A_iload_n K d_Model_rankOf 7 1 (pc' := 14) rfl rfl rfl rfl ?_
    refine A_iald K d_Model_rankOf 8 1 0 (pc' := 15) rfl rfl rfl rfl h.1 ?_
    replace h := h.2
    refine A_goto K d_Model_rankOf 9 (pc' := 31) rfl rfl ?_
    exact hend 18 _ _ _ rfl h
theorem met_Model_rankOf (l : Launch) (D : va_G) (cI cJ cZ : ClassId) (a_t a_ends a_there a_one a_two a_what a_piece a_kinds a_group a_many a_pieceOf a_numberOf a_ups a_jointUp a_partner a_beyonds a_gone : Nat) (thrown : Int32) (made : Int32) (tree : Int32) (items : Int32) (what : Nat → Int32) (piece : Nat → Int32) (pieces : Int32) (joints : Int32) (nodes : Int32) (numberOf : Nat → Int32) (partner : Nat → Int32) (x1 : Int32) (post : Int32 → Prop) (sz : Nat) : Met l y_Model_rankOf (Cond.code y_Model_rankOf c_Model_rankOf 2 (Option.some Jvm.ClassFile.FieldType.int) :: GW) { frames := 1, cells := 0, slots := 0, locals := 21 } (va_Pc [.ref a_t, .int x1] (fun U => sk_P D (tyl cI cJ cZ) (w_Model_rankOf cI cJ cZ a_t a_ends a_there a_one a_two a_what a_piece a_kinds a_group a_many a_pieceOf a_numberOf a_ups a_jointUp a_partner a_beyonds a_gone thrown made tree items what piece pieces joints nodes numberOf partner) sz U ∧ wp_Model_rankOf what piece numberOf partner x1 post)) (va_Qi (fun (r : Int32) (_ : Unit) => post r) (fun _ t => sk_B D (tyl cI cJ cZ) (w_Model_rankOf cI cJ cZ a_t a_ends a_there a_one a_two a_what a_piece a_kinds a_group a_many a_pieceOf a_numberOf a_ups a_jointUp a_partner a_beyonds a_gone thrown made tree items what piece pieces joints nodes numberOf partner) (fun _ => True) t) (fun q => sz ≤ q)) 0 0 (fun q => sz ≤ q) :=
  sk_introR (by decide) (Nat.le_of_ble_eq_true rfl) (fun p e s m below meth c K hr _ h => bd_Model_rankOf K (Nat.le_refl _) (Nat.le_refl _) (fun ti pc r  lv hd hp => A_iret K d_Model_rankOf ti hr (post := (fun (r : Int32) (_ : Unit) => post r)) (wl := fun (_ : Unit) => w_Model_rankOf cI cJ cZ a_t a_ends a_there a_one a_two a_what a_piece a_kinds a_group a_many a_pieceOf a_numberOf a_ups a_jointUp a_partner a_beyonds a_gone thrown made tree items what piece pieces joints nodes numberOf partner) () hd hp) h)
/-! SkeletonTreeModel.item(II)I -/
def t_Model_item : List (Nat × Instr × Nat) := [(0, .aload_n 0, 1), (1, .iload_n 1, 1), (2, .invokevirtual 176, 3), (5, .ifCond .eq 5, 3), (8, .iconst 0, 1), (9, .ireturn, 1), (10, .aload_n 0, 1), (11, .getfield 38, 3), (14, .iload_n 1, 1), (15, .iaload, 1), (16, .istore_n 3, 1), (17, .iload_n 2, 1), (18, .ifCond .lt 12, 3), (21, .iload_n 2, 1), (22, .aload_n 0, 1), (23, .iload_n 3, 1), (24, .invokevirtual 116, 3), (27, .if_icmp .lt 10, 3), (30, .aload_n 0, 1), (31, .iconst 2, 1), (32, .putfield 63, 3), (35, .iconst 0, 1), (36, .ireturn, 1), (37, .iconst 0, 1), (38, .istore 4, 2), (40, .iload 4, 2), (42, .aload_n 0, 1), (43, .getfield 98, 3), (46, .if_icmp .ge 130, 3), (49, .iconst 0, 1), (50, .istore 5, 2), (52, .iconst 0, 1), (53, .istore 6, 2), (55, .iload 6, 2), (57, .aload_n 0, 1), (58, .getfield 98, 3), (61, .if_icmp .ge 57, 3), (64, .aload_n 0, 1), (65, .getfield 26, 3), (68, .iload 4, 2), (70, .iaload, 1), (71, .iload_n 3, 1), (72, .if_icmp .ne 46, 3), (75, .aload_n 0, 1), (76, .getfield 26, 3), (79, .iload 6, 2), (81, .iaload, 1), (82, .iload_n 3, 1), (83, .if_icmp .ne 25, 3), (86, .aload_n 0, 1), (87, .iload 6, 2), (89, .invokevirtual 179, 3), (92, .aload_n 0, 1), (93, .iload 4, 2), (95, .invokevirtual 179, 3), (98, .if_icmp .ge 10, 3), (101, .iload 5, 2), (103, .iconst 1, 1), (104, .iadd, 1), (105, .goto 5, 3), (108, .iload 5, 2), (110, .istore 5, 2), (112, .iinc 6 1, 3), (115, .goto (-60), 3), (118, .aload_n 0, 1), (119, .getfield 26, 3), (122, .iload 4, 2), (124, .iaload, 1), (125, .iload_n 3, 1), (126, .if_icmp .ne 44, 3), (129, .iload 5, 2), (131, .iload_n 2, 1), (132, .if_icmp .ne 38, 3), (135, .aload_n 0, 1), (136, .getfield 23, 3), (139, .iload 4, 2), (141, .iaload, 1), (142, .ifCond .lt 13, 3), (145, .aload_n 0, 1), (146, .getfield 23, 3), (149, .iload 4, 2), (151, .iaload, 1), (152, .goto 17, 3), (155, .bipush (-2), 2), (157, .aload_n 0, 1), (158, .getfield 41, 3), (161, .aload_n 0, 1), (162, .iload 4, 2), (164, .invokevirtual 143, 3), (167, .iaload, 1), (168, .isub, 1), (169, .ireturn, 1), (170, .iinc 4 1, 3), (173, .goto (-133), 3), (176, .iconst 0, 1), (177, .ireturn, 1)]
set_option maxRecDepth 100000 in
theorem d_Model_item : sk_T c_Model_item t_Model_item := by unfold sk_T t_Model_item; decide +kernel
def w_Model_item (cI cJ cZ : ClassId) (a_t a_ends a_there a_one a_two a_what a_piece a_kinds a_group a_many a_pieceOf a_numberOf a_ups a_jointUp a_partner a_beyonds a_gone : Nat) (thrown : Int32) (made : Int32) (tree : Int32) (items : Int32) (what : Nat → Int32) (piece : Nat → Int32) (pieces : Int32) (joints : Int32) (nodes : Int32) (pieceOf : Nat → Int32) (numberOf : Nat → Int32) (partner : Nat → Int32) : va_W := [(a_t, .inr (5, [.int thrown, .int made, .ref a_ends, .ref a_there, .int tree, .int items, .ref a_one, .ref a_two, .ref a_what, .ref a_piece, .int pieces, .int joints, .ref a_kinds, .ref a_group, .ref a_many, .int nodes, .ref a_pieceOf, .ref a_numberOf, .ref a_ups, .ref a_jointUp, .ref a_partner, .ref a_beyonds, .ref a_gone])), (a_what, .inl (cI, 320, .inl what)), (a_piece, .inl (cI, 320, .inl piece)), (a_pieceOf, .inl (cI, 110, .inl pieceOf)), (a_numberOf, .inl (cI, 110, .inl numberOf)), (a_partner, .inl (cI, 320, .inl partner))]
def wp_Model_item  (thrown : Int32) (tree : Int32) (items : Int32) (what : Nat → Int32) (piece : Nat → Int32) (nodes : Int32) (pieceOf : Nat → Int32) (numberOf : Nat → Int32) (partner : Nat → Int32) (x1 : Int32) (x2 : Int32) (post : Int32 → Int32 → Prop) : Prop :=
  wp_Model_none thrown tree nodes x1 (fun r_2 thrown_1 => (r_2 = 0 → vp_in x1 110 ∧ (x2 < 0 → post 0 2) ∧ (¬ x2 < 0 → wp_Model_sizeOf items piece (pieceOf (ix x1)) (fun r_3 => (x2 < r_3 → ∃ n, sL1 (fun (K_5 : Int32 → Prop) (i4_4 : Int32) => (items ≤ i4_4 → post 0 thrown_1) ∧ (¬ items ≤ i4_4 → ∃ n, sL2 (fun (K_10 : Int32 → Int32 → Prop) (i5_8 : Int32) (i6_9 : Int32) => jn0 (vp_in i4_4 320 ∧ (¬ (piece (ix i4_4)) = (pieceOf (ix x1)) → K_5 (i4_4 + 1)) ∧ ((piece (ix i4_4)) = (pieceOf (ix x1)) → (¬ i5_8 = x2 → K_5 (i4_4 + 1)) ∧ (i5_8 = x2 → vp_in i4_4 320 ∧ ((what (ix i4_4)) < 0 → wp_Model_beyond piece partner i4_4 (fun r_17 => vp_in r_17 110 ∧ post ((-2) - (numberOf (ix r_17))) thrown_1)) ∧ (¬ (what (ix i4_4)) < 0 → vp_in i4_4 320 ∧ post (what (ix i4_4)) thrown_1)))) (fun (J_13 : Prop) => (items ≤ i6_9 → J_13) ∧ (¬ items ≤ i6_9 → vp_in i4_4 320 ∧ (¬ (piece (ix i4_4)) = (pieceOf (ix x1)) → J_13) ∧ ((piece (ix i4_4)) = (pieceOf (ix x1)) → vp_in i6_9 320 ∧ (¬ (piece (ix i6_9)) = (pieceOf (ix x1)) → K_10 i5_8 (i6_9 + 1)) ∧ ((piece (ix i6_9)) = (pieceOf (ix x1)) → wp_Model_rankOf what piece numberOf partner i6_9 (fun r_15 => wp_Model_rankOf what piece numberOf partner i4_4 (fun r_16 => (r_16 ≤ r_15 → K_10 i5_8 (i6_9 + 1)) ∧ (¬ r_16 ≤ r_15 → K_10 (i5_8 + 1) (i6_9 + 1))))))))) n 0 0)) n 0) ∧ (¬ x2 < r_3 → post 0 2)))) ∧ (¬ r_2 = 0 → post 0 thrown_1))
set_option maxHeartbeats 4000000 in
set_option maxRecDepth 100000 in
theorem bd_Model_item {p : Program} {l : Launch} {e : Env} {R : Room} {s : State} {m : MethodId} {args : Array Value} {below : List Frame} {meth : Method} {c : Code} {D : va_G} {A B : Nat → Prop} {Q : State → Prop} {cI cJ cZ : ClassId} {a_t a_ends a_there a_one a_two a_what a_piece a_kinds a_group a_many a_pieceOf a_numberOf a_ups a_jointUp a_partner a_beyonds a_gone : Nat} {thrown : Int32} {made : Int32} {tree : Int32} {items : Int32} {what : Nat → Int32} {piece : Nat → Int32} {pieces : Int32} {joints : Int32} {nodes : Int32} {pieceOf : Nat → Int32} {numberOf : Nat → Int32} {partner : Nat → Int32} {x1 : Int32} {x2 : Int32} (K : sk_C p s m args meth c c_Model_item 7 "SkeletonTreeModel" D (tyl cI cJ cZ)) (hR1 : 2 ≤ R.frames) (hR2 : 43 ≤ R.locals) (hBA : ∀ q : Nat, B q → A q) {post : Int32 → Int32 → Prop} (hend : ∀ (ti pc : Nat) (r : Int32) (y0 : Int32) (lv : List (Nat × Value)), t_Model_item[ti]? = some (pc, .ireturn, 1) → post r y0 → AW p l e R s m args below meth c D A B 7 Q 0 0 (w_Model_item cI cJ cZ a_t a_ends a_there a_one a_two a_what a_piece a_kinds a_group a_many a_pieceOf a_numberOf a_ups a_jointUp a_partner a_beyonds a_gone y0 made tree items what piece pieces joints nodes pieceOf numberOf partner) lv pc [.int r]) (h : wp_Model_item thrown tree items what piece nodes pieceOf numberOf partner x1 x2 post) : AW p l e R s m args below meth c D A B 7 Q 0 0 (w_Model_item cI cJ cZ a_t a_ends a_there a_one a_two a_what a_piece a_kinds a_group a_many a_pieceOf a_numberOf a_ups a_jointUp a_partner a_beyonds a_gone thrown made tree items what piece pieces joints nodes pieceOf numberOf partner) [(0, .ref a_t), (1, .int x1), (2, .int x2)] 0 [] := by
  unfold wp_Model_item at h
  refine A_aload_n K d_Model_item 0 0 (pc' := 1) rfl rfl rfl rfl ?_
  refine A_iload_n K d_Model_item 1 1 (pc' := 2) rfl rfl rfl rfl ?_
  refine C_Vi1 K hBA d_Model_item 2 [0] [some 0, none, none, none, none, none] (As := [.int x1]) (rest := []) (pc' := 5) (wl := fun thrown_1 => w_Model_none cI cJ cZ a_t a_ends a_there a_one a_two a_what a_piece a_kinds a_group a_many a_pieceOf a_numberOf a_ups a_jointUp a_partner a_beyonds a_gone thrown_1 made tree items pieces joints nodes) (ws' := fun thrown_1 => w_Model_item cI cJ cZ a_t a_ends a_there a_one a_two a_what a_piece a_kinds a_group a_many a_pieceOf a_numberOf a_ups a_jointUp a_partner a_beyonds a_gone thrown_1 made tree items what piece pieces joints nodes pieceOf numberOf partner) v_Model_176 ⟨rfl, rfl, Nat.le_trans (Nat.le_of_ble_eq_true rfl) hR1, Nat.le_trans (Nat.le_of_ble_eq_true rfl) hR2⟩ (fun sz => met_Model_none l D cI cJ cZ a_t a_ends a_there a_one a_two a_what a_piece a_kinds a_group a_many a_pieceOf a_numberOf a_ups a_jointUp a_partner a_beyonds a_gone thrown made tree items pieces joints nodes x1 _ sz) h rfl rfl rfl rfl rfl (fun _ => rfl) rfl (by decide) (Nat.le_of_ble_eq_true rfl) ⟨Nat.zero_le _, Nat.zero_le _⟩ (q0 := 0) rfl rfl (fun _ => rfl) (fun r_2 thrown_1 h => ?_)
  refine A_if_eq K d_Model_item 3 10 (pc' := 8) rfl rfl rfl (fun q => ?_) (fun q => ?_)
  · replace h := h.1 q
    refine A_aload_n K d_Model_item 6 0 (pc' := 11) rfl rfl rfl rfl ?_
    refine A_get K d_Model_item 7 0 fl_Model_38 (pc' := 14) rfl rfl rfl rfl ?_
    refine A_iload_n K d_Model_item 8 1 (pc' := 15) rfl rfl rfl rfl ?_
    refine A_iald K d_Model_item 9 3 0 (pc' := 16) rfl rfl rfl rfl h.1 ?_
    replace h := h.2
    refine A_istore_n K d_Model_item 10 (pc' := 17) (lv' := [(3, .int (pieceOf (ix x1))), (0, .ref a_t), (1, .int x1), (2, .int x2)]) rfl rfl rfl (by decide) rfl ?_
    refine A_iload_n K d_Model_item 11 3 (pc' := 18) rfl rfl rfl rfl ?_
    refine A_if_lt K d_Model_item 12 30 (pc' := 21) rfl rfl rfl (fun q => ?_) (fun q => ?_)
    · replace h := h.1 q
      refine A_aload_n K d_Model_item 18 1 (pc' := 31) rfl rfl rfl rfl ?_
      refine A_iconst K d_Model_item 19 (pc' := 32) (v := 2) rfl rfl (by decide) ?_
      refine A_put K hBA d_Model_item 20 0 fp_Model_63 (pc' := 35) (ws' := w_Model_item cI cJ cZ a_t a_ends a_there a_one a_two a_what a_piece a_kinds a_group a_many a_pieceOf a_numberOf a_ups a_jointUp a_partner a_beyonds a_gone 2 made tree items what piece pieces joints nodes pieceOf numberOf partner) rfl rfl rfl (Nat.le_of_ble_eq_true rfl) rfl rfl rfl ?_
      refine A_iconst K d_Model_item 21 (pc' := 36) (v := 0) rfl rfl (by decide) ?_
      exact hend 22 _ _ _ _ rfl h
    · replace h := h.2 q
      refine A_iload_n K d_Model_item 13 3 (pc' := 22) rfl rfl rfl rfl ?_
      refine A_aload_n K d_Model_item 14 1 (pc' := 23) rfl rfl rfl rfl ?_
      refine A_iload_n K d_Model_item 15 0 (pc' := 24) rfl rfl rfl rfl ?_
      refine R_callV_i K d_Model_item 16 [0, 2] (As := [.int (pieceOf (ix x1))]) (rest := [.int x2]) (pc' := 27) v_Model_116 ⟨rfl, rfl, Nat.le_trans (Nat.le_of_ble_eq_true rfl) hR1, Nat.le_trans (Nat.le_of_ble_eq_true rfl) hR2⟩ (fun sz => met_Model_sizeOf l D cI cJ cZ a_t a_ends a_there a_one a_two a_what a_piece a_kinds a_group a_many a_pieceOf a_numberOf a_ups a_jointUp a_partner a_beyonds a_gone thrown_1 made tree items piece pieces joints nodes (pieceOf (ix x1)) _ sz) h rfl rfl rfl rfl rfl rfl (Nat.le_of_ble_eq_true rfl) ⟨Nat.zero_le _, Nat.zero_le _⟩ (q0 := 0) rfl rfl (fun r_3 h => ?_)
      refine A_icmp_lt K d_Model_item 17 37 (pc' := 30) rfl rfl rfl (fun q => ?_) (fun q => ?_)
      · replace h := h.1 q
        refine A_iconst K d_Model_item 23 (pc' := 38) (v := 0) rfl rfl (by decide) ?_
        refine A_istore K d_Model_item 24 (pc' := 40) (lv' := [(4, .int 0), (3, .int (pieceOf (ix x1))), (0, .ref a_t), (1, .int x1), (2, .int x2)]) rfl rfl (by decide) rfl ?_
        refine A_lv [2, 4, 1, 0] rfl ?_
        obtain ⟨n_7, h⟩ := h
        refine sL1_ind (fun (i4_4 : Int32) => AW p l e R s m args below meth c D A B 7 Q 0 0 (w_Model_item cI cJ cZ a_t a_ends a_there a_one a_two a_what a_piece a_kinds a_group a_many a_pieceOf a_numberOf a_ups a_jointUp a_partner a_beyonds a_gone thrown_1 made tree items what piece pieces joints nodes pieceOf numberOf partner) [(0, .ref a_t), (2, .int x2), (3, .int (pieceOf (ix x1))), (4, .int i4_4)] 40 []) ?_ n_7 _ h
        intro K_5 ih_6 i4_4 h
        refine A_iload K d_Model_item 25 3 (pc' := 42) rfl rfl rfl ?_
        refine A_aload_n K d_Model_item 26 0 (pc' := 43) rfl rfl rfl rfl ?_
        refine A_get K d_Model_item 27 0 fl_Model_98 (pc' := 46) rfl rfl rfl rfl ?_
        refine A_icmp_ge K d_Model_item 28 176 (pc' := 49) rfl rfl rfl (fun q => ?_) (fun q => ?_)
        · replace h := h.1 q
          refine A_iconst K d_Model_item 94 (pc' := 177) (v := 0) rfl rfl (by decide) ?_
          exact hend 95 _ _ _ _ rfl h
        · replace h := h.2 q
          refine A_iconst K d_Model_item 29 (pc' := 50) (v := 0) rfl rfl (by decide) ?_
          refine A_istore K d_Model_item 30 (pc' := 52) (lv' := [(5, .int 0), (0, .ref a_t), (2, .int x2), (3, .int (pieceOf (ix x1))), (4, .int i4_4)]) rfl rfl (by decide) rfl ?_
          refine A_iconst K d_Model_item 31 (pc' := 53) (v := 0) rfl rfl (by decide) ?_
          refine A_istore K d_Model_item 32 (pc' := 55) (lv' := [(6, .int 0), (5, .int 0), (0, .ref a_t), (2, .int x2), (3, .int (pieceOf (ix x1))), (4, .int i4_4)]) rfl rfl (by decide) rfl ?_
          refine A_lv [2, 3, 4, 5, 1, 0] rfl ?_
          obtain ⟨n_12, h⟩ := h
          refine sL2_ind (fun (i5_8 : Int32) (i6_9 : Int32) => AW p l e R s m args below meth c D A B 7 Q 0 0 (w_Model_item cI cJ cZ a_t a_ends a_there a_one a_two a_what a_piece a_kinds a_group a_many a_pieceOf a_numberOf a_ups a_jointUp a_partner a_beyonds a_gone thrown_1 made tree items what piece pieces joints nodes pieceOf numberOf partner) [(0, .ref a_t), (2, .int x2), (3, .int (pieceOf (ix x1))), (4, .int i4_4), (5, .int i5_8), (6, .int i6_9)] 55 []) ?_ n_12 _ _ h
          intro K_10 ih_11 i5_8 i6_9 h
          refine A_iload K d_Model_item 33 5 (pc' := 57) rfl rfl rfl ?_
          refine A_aload_n K d_Model_item 34 0 (pc' := 58) rfl rfl rfl rfl ?_
          refine A_get K d_Model_item 35 0 fl_Model_98 (pc' := 61) rfl rfl rfl rfl ?_
          refine jn0_use (AW p l e R s m args below meth c D A B 7 Q 0 0 (w_Model_item cI cJ cZ a_t a_ends a_there a_one a_two a_what a_piece a_kinds a_group a_many a_pieceOf a_numberOf a_ups a_jointUp a_partner a_beyonds a_gone thrown_1 made tree items what piece pieces joints nodes pieceOf numberOf partner) [(0, .ref a_t), (2, .int x2), (3, .int (pieceOf (ix x1))), (4, .int i4_4), (5, .int i5_8)] 118 []) h ?_ ?_
          · intro  h
            refine A_aload_n K d_Model_item 64 0 (pc' := 119) rfl rfl rfl rfl ?_
            refine A_get K d_Model_item 65 0 fl_Model_26 (pc' := 122) rfl rfl rfl rfl ?_
            refine A_iload K d_Model_item 66 3 (pc' := 124) rfl rfl rfl ?_
            refine A_iald K d_Model_item 67 2 0 (pc' := 125) rfl rfl rfl rfl h.1 ?_
            replace h := h.2
            refine A_iload_n K d_Model_item 68 2 (pc' := 126) rfl rfl rfl rfl ?_
            refine A_icmp_ne K d_Model_item 69 170 (pc' := 129) rfl rfl rfl (fun q => ?_) (fun q => ?_)
            · replace h := h.1 q
              refine A_iinc K d_Model_item 92 3 (pc' := 173) (v := i4_4 + 1) (lv' := [(4, .int (i4_4 + 1)), (0, .ref a_t), (2, .int x2), (3, .int (pieceOf (ix x1))), (5, .int i5_8)]) rfl rfl rfl rfl (by decide) rfl ?_
              refine A_goto K d_Model_item 93 (pc' := 40) rfl rfl ?_
              refine A_lv [1, 2, 3, 0] rfl ?_
              exact ih_6 _ h
            · replace h := h.2 q
              refine A_iload K d_Model_item 70 4 (pc' := 131) rfl rfl rfl ?_
              refine A_iload_n K d_Model_item 71 1 (pc' := 132) rfl rfl rfl rfl ?_
              refine A_icmp_ne K d_Model_item 72 170 (pc' := 135) rfl rfl rfl (fun q => ?_) (fun q => ?_)
              · replace h := h.1 q
                refine A_iinc K d_Model_item 92 3 (pc' := 173) (v := i4_4 + 1) (lv' := [(4, .int (i4_4 + 1)), (0, .ref a_t), (2, .int x2), (3, .int (pieceOf (ix x1))), (5, .int i5_8)]) rfl rfl rfl rfl (by decide) rfl ?_
                refine A_goto K d_Model_item 93 (pc' := 40) rfl rfl ?_
                refine A_lv [1, 2, 3, 0] rfl ?_
                exact ih_6 _ h
              · replace h := h.2 q
                refine A_aload_n K d_Model_item 73 0 (pc' := 136) rfl rfl rfl rfl ?_
                refine A_get K d_Model_item 74 0 fl_Model_23 (pc' := 139) rfl rfl rfl rfl ?_
                refine A_iload K d_Model_item 75 3 (pc' := 141) rfl rfl rfl ?_
                refine A_iald K d_Model_item 76 1 0 (pc' := 142) rfl rfl rfl rfl h.1 ?_
                replace h := h.2
                refine A_if_lt K d_Model_item 77 155 (pc' := 145) rfl rfl rfl (fun q => ?_) (fun q => ?_)
                · replace h := h.1 q
                  refine A_bipush K d_Model_item 83 (pc' := 157) (v := (-2)) rfl rfl (by decide) ?_
                  refine A_aload_n K d_Model_item 84 0 (pc' := 158) rfl rfl rfl rfl ?_
                  refine A_get K d_Model_item 85 0 fl_Model_41 (pc' := 161) rfl rfl rfl rfl ?_
                  refine A_aload_n K d_Model_item 86 0 (pc' := 162) rfl rfl rfl rfl ?_
                  refine A_iload K d_Model_item 87 3 (pc' := 164) rfl rfl rfl ?_
                  refine R_callV_i K d_Model_item 88 [0, 2, 5] (As := [.int i4_4]) (rest := [.ref a_numberOf, .int (-2)]) (pc' := 167) v_Model_143 ⟨rfl, rfl, Nat.le_trans (Nat.le_of_ble_eq_true rfl) hR1, Nat.le_trans (Nat.le_of_ble_eq_true rfl) hR2⟩ (fun sz => met_Model_beyond l D cI cJ cZ a_t a_ends a_there a_one a_two a_what a_piece a_kinds a_group a_many a_pieceOf a_numberOf a_ups a_jointUp a_partner a_beyonds a_gone thrown_1 made tree items piece pieces joints nodes partner i4_4 _ sz) h rfl rfl rfl rfl rfl rfl (Nat.le_of_ble_eq_true rfl) ⟨Nat.zero_le _, Nat.zero_le _⟩ (q0 := 0) rfl rfl (fun r_17 h => ?_)
                  refine A_iald K d_Model_item 89 4 0 (pc' := 168) rfl rfl rfl rfl h.1 ?_
                  replace h := h.2
                  refine A_isub K d_Model_item 90 (pc' := 169) rfl rfl ?_
                  exact hend 91 _ _ _ _ rfl h
                · replace h := h.2 q
                  refine A_aload_n K d_Model_item 78 0 (pc' := 146) rfl rfl rfl rfl ?_
                  refine A_get K d_Model_item 79 0 fl_Model_23 (pc' := 149) rfl rfl rfl rfl ?_
                  refine A_iload K d_Model_item 80 3 (pc' := 151) rfl rfl rfl ?_
                  refine A_iald K d_Model_item 81 1 0 (pc' := 152) rfl rfl rfl rfl h.1 ?_
                  replace h := h.2
                  refine A_goto K d_Model_item 82 (pc' := 169) rfl rfl ?_
                  exact hend 91 _ _ _ _ rfl h
          · intro J_13 hJ_14 h
            refine A_icmp_ge K d_Model_item 36 118 (pc' := 64) rfl rfl rfl (fun q => ?_) (fun q => ?_)
            · replace h := h.1 q
              refine A_lv [0, 1, 2, 3, 4] rfl ?_
              exact hJ_14 h
            · replace h := h.2 q
              refine A_aload_n K d_Model_item 37 0 (pc' := 65) rfl rfl rfl rfl ?_
              refine A_get K d_Model_item 38 0 fl_Model_26 (pc' := 68) rfl rfl rfl rfl ?_
              refine A_iload K d_Model_item 39 3 (pc' := 70) rfl rfl rfl ?_
              refine A_iald K d_Model_item 40 2 0 (pc' := 71) rfl rfl rfl rfl h.1 ?_
              replace h := h.2
              refine A_iload_n K d_Model_item 41 2 (pc' := 72) rfl rfl rfl rfl ?_
              refine A_icmp_ne K d_Model_item 42 118 (pc' := 75) rfl rfl rfl (fun q => ?_) (fun q => ?_)
              · replace h := h.1 q
                refine A_lv [0, 1, 2, 3, 4] rfl ?_
                exact hJ_14 h
              · replace h := h.2 q
                refine A_aload_n K d_Model_item 43 0 (pc' := 76) rfl rfl rfl rfl ?_
                refine A_get K d_Model_item 44 0 fl_Model_26 (pc' := 79) rfl rfl rfl rfl ?_
                refine A_iload K d_Model_item 45 5 (pc' := 81) rfl rfl rfl ?_
                refine A_iald K d_Model_item 46 2 0 (pc' := 82) rfl rfl rfl rfl h.1 ?_
                replace h := h.2
                refine A_iload_n K d_Model_item 47 2 (pc' := 83) rfl rfl rfl rfl ?_
                refine A_icmp_ne K d_Model_item 48 108 (pc' := 86) rfl rfl rfl (fun q => ?_) (fun q => ?_)
                · replace h := h.1 q
                  refine A_iload K d_Model_item 60 4 (pc' := 110) rfl rfl rfl ?_
                  refine A_istore K d_Model_item 61 (pc' := 112) (lv' := [(5, .int i5_8), (0, .ref a_t), (2, .int x2), (3, .int (pieceOf (ix x1))), (4, .int i4_4), (6, .int i6_9)]) rfl rfl (by decide) rfl ?_
                  refine A_iinc K d_Model_item 62 5 (pc' := 115) (v := i6_9 + 1) (lv' := [(6, .int (i6_9 + 1)), (5, .int i5_8), (0, .ref a_t), (2, .int x2), (3, .int (pieceOf (ix x1))), (4, .int i4_4)]) rfl rfl rfl rfl (by decide) rfl ?_
                  refine A_goto K d_Model_item 63 (pc' := 55) rfl rfl ?_
                  refine A_lv [2, 3, 4, 5, 1, 0] rfl ?_
                  exact ih_11 _ _ h
                · replace h := h.2 q
                  refine A_aload_n K d_Model_item 49 0 (pc' := 87) rfl rfl rfl rfl ?_
                  refine A_iload K d_Model_item 50 5 (pc' := 89) rfl rfl rfl ?_
                  refine R_callV_i K d_Model_item 51 [0, 1, 2, 4, 5] (As := [.int i6_9]) (rest := []) (pc' := 92) v_Model_179 ⟨rfl, rfl, Nat.le_trans (Nat.le_of_ble_eq_true rfl) hR1, Nat.le_trans (Nat.le_of_ble_eq_true rfl) hR2⟩ (fun sz => met_Model_rankOf l D cI cJ cZ a_t a_ends a_there a_one a_two a_what a_piece a_kinds a_group a_many a_pieceOf a_numberOf a_ups a_jointUp a_partner a_beyonds a_gone thrown_1 made tree items what piece pieces joints nodes numberOf partner i6_9 _ sz) h rfl rfl rfl rfl rfl rfl (Nat.le_of_ble_eq_true rfl) ⟨Nat.zero_le _, Nat.zero_le _⟩ (q0 := 0) rfl rfl (fun r_15 h => ?_)
                  refine A_aload_n K d_Model_item 52 0 (pc' := 93) rfl rfl rfl rfl ?_
                  refine A_iload K d_Model_item 53 3 (pc' := 95) rfl rfl rfl ?_
                  refine R_callV_i K d_Model_item 54 [0, 1, 2, 4, 5] (As := [.int i4_4]) (rest := [.int r_15]) (pc' := 98) v_Model_179 ⟨rfl, rfl, Nat.le_trans (Nat.le_of_ble_eq_true rfl) hR1, Nat.le_trans (Nat.le_of_ble_eq_true rfl) hR2⟩ (fun sz => met_Model_rankOf l D cI cJ cZ a_t a_ends a_there a_one a_two a_what a_piece a_kinds a_group a_many a_pieceOf a_numberOf a_ups a_jointUp a_partner a_beyonds a_gone thrown_1 made tree items what piece pieces joints nodes numberOf partner i4_4 _ sz) h rfl rfl rfl rfl rfl rfl (Nat.le_of_ble_eq_true rfl) ⟨Nat.zero_le _, Nat.zero_le _⟩ (q0 := 0) rfl rfl (fun r_16 h => ?_)
                  refine A_icmp_ge K d_Model_item 55 108 (pc' := 101) rfl rfl rfl (fun q => ?_) (fun q => ?_)
                  · replace h := h.1 q
                    refine A_iload K d_Model_item 60 4 (pc' := 110) rfl rfl rfl ?_
                    refine A_istore K d_Model_item 61 (pc' := 112) (lv' := [(5, .int i5_8), (0, .ref a_t), (2, .int x2), (3, .int (pieceOf (ix x1))), (4, .int i4_4), (6, .int i6_9)]) rfl rfl (by decide) rfl ?_
                    refine A_iinc K d_Model_item 62 5 (pc' := 115) (v := i6_9 + 1) (lv' := [(6, .int (i6_9 + 1)), (5, .int i5_8), (0, .ref a_t), (2, .int x2), (3, .int (pieceOf (ix x1))), (4, .int i4_4)]) rfl rfl rfl rfl (by decide) rfl ?_
                    refine A_goto K d_Model_item 63 (pc' := 55) rfl rfl ?_
                    refine A_lv [2, 3, 4, 5, 1, 0] rfl ?_
                    exact ih_11 _ _ h
                  · replace h := h.2 q
                    refine A_iload K d_Model_item 56 4 (pc' := 103) rfl rfl rfl ?_
                    refine A_iconst K d_Model_item 57 (pc' := 104) (v := 1) rfl rfl (by decide) ?_
                    refine A_iadd K d_Model_item 58 (pc' := 105) rfl rfl ?_
                    refine A_goto K d_Model_item 59 (pc' := 110) rfl rfl ?_
                    refine A_istore K d_Model_item 61 (pc' := 112) (lv' := [(5, .int (i5_8 + 1)), (0, .ref a_t), (2, .int x2), (3, .int (pieceOf (ix x1))), (4, .int i4_4), (6, .int i6_9)]) rfl rfl (by decide) rfl ?_
                    refine A_iinc K d_Model_item 62 5 (pc' := 115) (v := i6_9 + 1) (lv' := [(6, .int (i6_9 + 1)), (5, .int (i5_8 + 1)), (0, .ref a_t), (2, .int x2), (3, .int (pieceOf (ix x1))), (4, .int i4_4)]) rfl rfl rfl rfl (by decide) rfl ?_
                    refine A_goto K d_Model_item 63 (pc' := 55) rfl rfl ?_
                    refine A_lv [2, 3, 4, 5, 1, 0] rfl ?_
                    exact ih_11 _ _ h
      · replace h := h.2 q
        refine A_aload_n K d_Model_item 18 1 (pc' := 31) rfl rfl rfl rfl ?_
        refine A_iconst K d_Model_item 19 (pc' := 32) (v := 2) rfl rfl (by decide) ?_
        refine A_put K hBA d_Model_item 20 0 fp_Model_63 (pc' := 35) (ws' := w_Model_item cI cJ cZ a_t a_ends a_there a_one a_two a_what a_piece a_kinds a_group a_many a_pieceOf a_numberOf a_ups a_jointUp a_partner a_beyonds a_gone 2 made tree items what piece pieces joints nodes pieceOf numberOf partner) rfl rfl rfl (Nat.le_of_ble_eq_true rfl) rfl rfl rfl ?_
        refine A_iconst K d_Model_item 21 (pc' := 36) (v := 0) rfl rfl (by decide) ?_
        exact hend 22 _ _ _ _ rfl h
  · replace h := h.2 q
    refine A_iconst K d_Model_item 4 (pc' := 9) (v := 0) rfl rfl (by decide) ?_
    exact hend 5 _ _ _ _ rfl h
theorem met_Model_item (l : Launch) (D : va_G) (cI cJ cZ : ClassId) (a_t a_ends a_there a_one a_two a_what a_piece a_kinds a_group a_many a_pieceOf a_numberOf a_ups a_jointUp a_partner a_beyonds a_gone : Nat) (thrown : Int32) (made : Int32) (tree : Int32) (items : Int32) (what : Nat → Int32) (piece : Nat → Int32) (pieces : Int32) (joints : Int32) (nodes : Int32) (pieceOf : Nat → Int32) (numberOf : Nat → Int32) (partner : Nat → Int32) (x1 : Int32) (x2 : Int32) (post : Int32 → Int32 → Prop) (sz : Nat) : Met l y_Model_item (Cond.code y_Model_item c_Model_item 7 (Option.some Jvm.ClassFile.FieldType.int) :: GW) { frames := 2, cells := 0, slots := 0, locals := 43 } (va_Pc [.ref a_t, .int x1, .int x2] (fun U => sk_P D (tyl cI cJ cZ) (w_Model_item cI cJ cZ a_t a_ends a_there a_one a_two a_what a_piece a_kinds a_group a_many a_pieceOf a_numberOf a_ups a_jointUp a_partner a_beyonds a_gone thrown made tree items what piece pieces joints nodes pieceOf numberOf partner) sz U ∧ wp_Model_item thrown tree items what piece nodes pieceOf numberOf partner x1 x2 post)) (va_Qi (fun (r : Int32) (u : Int32) => post r u) (fun u t => sk_B D (tyl cI cJ cZ) (w_Model_item cI cJ cZ a_t a_ends a_there a_one a_two a_what a_piece a_kinds a_group a_many a_pieceOf a_numberOf a_ups a_jointUp a_partner a_beyonds a_gone u made tree items what piece pieces joints nodes pieceOf numberOf partner) (va_A (w_Model_item cI cJ cZ a_t a_ends a_there a_one a_two a_what a_piece a_kinds a_group a_many a_pieceOf a_numberOf a_ups a_jointUp a_partner a_beyonds a_gone thrown made tree items what piece pieces joints nodes pieceOf numberOf partner) sz) t) (va_A (w_Model_item cI cJ cZ a_t a_ends a_there a_one a_two a_what a_piece a_kinds a_group a_many a_pieceOf a_numberOf a_ups a_jointUp a_partner a_beyonds a_gone thrown made tree items what piece pieces joints nodes pieceOf numberOf partner) sz)) 0 0 (va_A (w_Model_item cI cJ cZ a_t a_ends a_there a_one a_two a_what a_piece a_kinds a_group a_many a_pieceOf a_numberOf a_ups a_jointUp a_partner a_beyonds a_gone thrown made tree items what piece pieces joints nodes pieceOf numberOf partner) sz) :=
  sk_intro (by decide) (Nat.le_of_ble_eq_true rfl) (fun p e s m below meth c K hr _ h => bd_Model_item K (Nat.le_refl _) (Nat.le_refl _) (fun _ z => z) (fun ti pc r y0 lv hd hp => A_iret K d_Model_item ti hr (post := (fun (r : Int32) (u : Int32) => post r u)) (wl := fun (u : Int32) => w_Model_item cI cJ cZ a_t a_ends a_there a_one a_two a_what a_piece a_kinds a_group a_many a_pieceOf a_numberOf a_ups a_jointUp a_partner a_beyonds a_gone u made tree items what piece pieces joints nodes pieceOf numberOf partner) y0 hd hp) h)
/-! SkeletonTreeModel.up(I)I -/
def t_Model_up : List (Nat × Instr × Nat) := [(0, .aload_n 0, 1), (1, .iload_n 1, 1), (2, .invokevirtual 176, 3), (5, .ifCond .eq 7, 3), (8, .iconst 0, 1), (9, .goto 9, 3), (12, .aload_n 0, 1), (13, .getfield 44, 3), (16, .iload_n 1, 1), (17, .iaload, 1), (18, .ireturn, 1)]
set_option maxRecDepth 100000 in
theorem d_Model_up : sk_T c_Model_up t_Model_up := by unfold sk_T t_Model_up; decide +kernel
def w_Model_up (cI cJ cZ : ClassId) (a_t a_ends a_there a_one a_two a_what a_piece a_kinds a_group a_many a_pieceOf a_numberOf a_ups a_jointUp a_partner a_beyonds a_gone : Nat) (thrown : Int32) (made : Int32) (tree : Int32) (items : Int32) (pieces : Int32) (joints : Int32) (nodes : Int32) (ups : Nat → Int32) : va_W := [(a_t, .inr (5, [.int thrown, .int made, .ref a_ends, .ref a_there, .int tree, .int items, .ref a_one, .ref a_two, .ref a_what, .ref a_piece, .int pieces, .int joints, .ref a_kinds, .ref a_group, .ref a_many, .int nodes, .ref a_pieceOf, .ref a_numberOf, .ref a_ups, .ref a_jointUp, .ref a_partner, .ref a_beyonds, .ref a_gone])), (a_ups, .inl (cI, 110, .inl ups))]
def wp_Model_up  (thrown : Int32) (tree : Int32) (nodes : Int32) (ups : Nat → Int32) (x1 : Int32) (post : Int32 → Int32 → Prop) : Prop :=
  wp_Model_none thrown tree nodes x1 (fun r_2 thrown_1 => (r_2 = 0 → vp_in x1 110 ∧ post (ups (ix x1)) thrown_1) ∧ (¬ r_2 = 0 → post 0 thrown_1))
set_option maxHeartbeats 4000000 in
set_option maxRecDepth 100000 in
theorem bd_Model_up {p : Program} {l : Launch} {e : Env} {R : Room} {s : State} {m : MethodId} {args : Array Value} {below : List Frame} {meth : Method} {c : Code} {D : va_G} {A B : Nat → Prop} {Q : State → Prop} {cI cJ cZ : ClassId} {a_t a_ends a_there a_one a_two a_what a_piece a_kinds a_group a_many a_pieceOf a_numberOf a_ups a_jointUp a_partner a_beyonds a_gone : Nat} {thrown : Int32} {made : Int32} {tree : Int32} {items : Int32} {pieces : Int32} {joints : Int32} {nodes : Int32} {ups : Nat → Int32} {x1 : Int32} (K : sk_C p s m args meth c c_Model_up 2 "SkeletonTreeModel" D (tyl cI cJ cZ)) (hR1 : 2 ≤ R.frames) (hR2 : 43 ≤ R.locals) (hBA : ∀ q : Nat, B q → A q) {post : Int32 → Int32 → Prop} (hend : ∀ (ti pc : Nat) (r : Int32) (y0 : Int32) (lv : List (Nat × Value)), t_Model_up[ti]? = some (pc, .ireturn, 1) → post r y0 → AW p l e R s m args below meth c D A B 2 Q 0 0 (w_Model_up cI cJ cZ a_t a_ends a_there a_one a_two a_what a_piece a_kinds a_group a_many a_pieceOf a_numberOf a_ups a_jointUp a_partner a_beyonds a_gone y0 made tree items pieces joints nodes ups) lv pc [.int r]) (h : wp_Model_up thrown tree nodes ups x1 post) : AW p l e R s m args below meth c D A B 2 Q 0 0 (w_Model_up cI cJ cZ a_t a_ends a_there a_one a_two a_what a_piece a_kinds a_group a_many a_pieceOf a_numberOf a_ups a_jointUp a_partner a_beyonds a_gone thrown made tree items pieces joints nodes ups) [(0, .ref a_t), (1, .int x1)] 0 [] := by
  unfold wp_Model_up at h
  refine A_aload_n K d_Model_up 0 0 (pc' := 1) rfl rfl rfl rfl ?_
  refine A_iload_n K d_Model_up 1 1 (pc' := 2) rfl rfl rfl rfl ?_
  refine C_Vi1 K hBA d_Model_up 2 [0] [some 0, none] (As := [.int x1]) (rest := []) (pc' := 5) (wl := fun thrown_1 => w_Model_none cI cJ cZ a_t a_ends a_there a_one a_two a_what a_piece a_kinds a_group a_many a_pieceOf a_numberOf a_ups a_jointUp a_partner a_beyonds a_gone thrown_1 made tree items pieces joints nodes) (ws' := fun thrown_1 => w_Model_up cI cJ cZ a_t a_ends a_there a_one a_two a_what a_piece a_kinds a_group a_many a_pieceOf a_numberOf a_ups a_jointUp a_partner a_beyonds a_gone thrown_1 made tree items pieces joints nodes ups) v_Model_176 ⟨rfl, rfl, Nat.le_trans (Nat.le_of_ble_eq_true rfl) hR1, Nat.le_trans (Nat.le_of_ble_eq_true rfl) hR2⟩ (fun sz => met_Model_none l D cI cJ cZ a_t a_ends a_there a_one a_two a_what a_piece a_kinds a_group a_many a_pieceOf a_numberOf a_ups a_jointUp a_partner a_beyonds a_gone thrown made tree items pieces joints nodes x1 _ sz) h rfl rfl rfl rfl rfl (fun _ => rfl) rfl (by decide) (Nat.le_of_ble_eq_true rfl) ⟨Nat.zero_le _, Nat.zero_le _⟩ (q0 := 0) rfl rfl (fun _ => rfl) (fun r_2 thrown_1 h => ?_)
  refine A_if_eq K d_Model_up 3 12 (pc' := 8) rfl rfl rfl (fun q => ?_) (fun q => ?_)
  · replace h := h.1 q
    refine A_aload_n K d_Model_up 6 0 (pc' := 13) rfl rfl rfl rfl ?_
    refine A_get K d_Model_up 7 0 fl_Model_44 (pc' := 16) rfl rfl rfl rfl ?_
    refine A_iload_n K d_Model_up 8 1 (pc' := 17) rfl rfl rfl rfl ?_
    refine A_iald K d_Model_up 9 1 0 (pc' := 18) rfl rfl rfl rfl h.1 ?_
    replace h := h.2
    exact hend 10 _ _ _ _ rfl h
  · replace h := h.2 q
    refine A_iconst K d_Model_up 4 (pc' := 9) (v := 0) rfl rfl (by decide) ?_
    refine A_goto K d_Model_up 5 (pc' := 18) rfl rfl ?_
    exact hend 10 _ _ _ _ rfl h
theorem met_Model_up (l : Launch) (D : va_G) (cI cJ cZ : ClassId) (a_t a_ends a_there a_one a_two a_what a_piece a_kinds a_group a_many a_pieceOf a_numberOf a_ups a_jointUp a_partner a_beyonds a_gone : Nat) (thrown : Int32) (made : Int32) (tree : Int32) (items : Int32) (pieces : Int32) (joints : Int32) (nodes : Int32) (ups : Nat → Int32) (x1 : Int32) (post : Int32 → Int32 → Prop) (sz : Nat) : Met l y_Model_up (Cond.code y_Model_up c_Model_up 2 (Option.some Jvm.ClassFile.FieldType.int) :: GW) { frames := 2, cells := 0, slots := 0, locals := 43 } (va_Pc [.ref a_t, .int x1] (fun U => sk_P D (tyl cI cJ cZ) (w_Model_up cI cJ cZ a_t a_ends a_there a_one a_two a_what a_piece a_kinds a_group a_many a_pieceOf a_numberOf a_ups a_jointUp a_partner a_beyonds a_gone thrown made tree items pieces joints nodes ups) sz U ∧ wp_Model_up thrown tree nodes ups x1 post)) (va_Qi (fun (r : Int32) (u : Int32) => post r u) (fun u t => sk_B D (tyl cI cJ cZ) (w_Model_up cI cJ cZ a_t a_ends a_there a_one a_two a_what a_piece a_kinds a_group a_many a_pieceOf a_numberOf a_ups a_jointUp a_partner a_beyonds a_gone u made tree items pieces joints nodes ups) (va_A (w_Model_up cI cJ cZ a_t a_ends a_there a_one a_two a_what a_piece a_kinds a_group a_many a_pieceOf a_numberOf a_ups a_jointUp a_partner a_beyonds a_gone thrown made tree items pieces joints nodes ups) sz) t) (va_A (w_Model_up cI cJ cZ a_t a_ends a_there a_one a_two a_what a_piece a_kinds a_group a_many a_pieceOf a_numberOf a_ups a_jointUp a_partner a_beyonds a_gone thrown made tree items pieces joints nodes ups) sz)) 0 0 (va_A (w_Model_up cI cJ cZ a_t a_ends a_there a_one a_two a_what a_piece a_kinds a_group a_many a_pieceOf a_numberOf a_ups a_jointUp a_partner a_beyonds a_gone thrown made tree items pieces joints nodes ups) sz) :=
  sk_intro (by decide) (Nat.le_of_ble_eq_true rfl) (fun p e s m below meth c K hr _ h => bd_Model_up K (Nat.le_refl _) (Nat.le_refl _) (fun _ z => z) (fun ti pc r y0 lv hd hp => A_iret K d_Model_up ti hr (post := (fun (r : Int32) (u : Int32) => post r u)) (wl := fun (u : Int32) => w_Model_up cI cJ cZ a_t a_ends a_there a_one a_two a_what a_piece a_kinds a_group a_many a_pieceOf a_numberOf a_ups a_jointUp a_partner a_beyonds a_gone u made tree items pieces joints nodes ups) y0 hd hp) h)
/-! SkeletonTreeModel.joint(IZ)I -/
def t_Model_joint : List (Nat × Instr × Nat) := [(0, .aload_n 0, 1), (1, .iload_n 1, 1), (2, .invokevirtual 176, 3), (5, .ifCond .eq 5, 3), (8, .iconst 0, 1), (9, .ireturn, 1), (10, .iload_n 1, 1), (11, .ifCond .ne 5, 3), (14, .iconst (-1), 1), (15, .ireturn, 1), (16, .aload_n 0, 1), (17, .aload_n 0, 1), (18, .getfield 47, 3), (21, .iload_n 1, 1), (22, .iaload, 1), (23, .iconst (-1), 1), (24, .invokevirtual 139, 3), (27, .istore_n 3, 1), (28, .aload_n 0, 1), (29, .getfield 17, 3), (32, .iload_n 3, 1), (33, .iaload, 1), (34, .aload_n 0, 1), (35, .getfield 20, 3), (38, .iload_n 3, 1), (39, .iaload, 1), (40, .if_icmp .ge 7, 3), (43, .iconst 1, 1), (44, .goto 4, 3), (47, .iconst 0, 1), (48, .istore 4, 2), (50, .iload 4, 2), (52, .iload_n 2, 1), (53, .if_icmp .ne 12, 3), (56, .aload_n 0, 1), (57, .getfield 20, 3), (60, .iload_n 3, 1), (61, .iaload, 1), (62, .goto 9, 3), (65, .aload_n 0, 1), (66, .getfield 17, 3), (69, .iload_n 3, 1), (70, .iaload, 1), (71, .ireturn, 1)]
set_option maxRecDepth 100000 in
theorem d_Model_joint : sk_T c_Model_joint t_Model_joint := by unfold sk_T t_Model_joint; decide +kernel
def w_Model_joint (cI cJ cZ : ClassId) (a_t a_ends a_there a_one a_two a_what a_piece a_kinds a_group a_many a_pieceOf a_numberOf a_ups a_jointUp a_partner a_beyonds a_gone : Nat) (thrown : Int32) (made : Int32) (tree : Int32) (items : Int32) (one : Nat → Int32) (two : Nat → Int32) (what : Nat → Int32) (pieces : Int32) (joints : Int32) (nodes : Int32) (jointUp : Nat → Int32) : va_W := [(a_t, .inr (5, [.int thrown, .int made, .ref a_ends, .ref a_there, .int tree, .int items, .ref a_one, .ref a_two, .ref a_what, .ref a_piece, .int pieces, .int joints, .ref a_kinds, .ref a_group, .ref a_many, .int nodes, .ref a_pieceOf, .ref a_numberOf, .ref a_ups, .ref a_jointUp, .ref a_partner, .ref a_beyonds, .ref a_gone])), (a_one, .inl (cI, 320, .inl one)), (a_two, .inl (cI, 320, .inl two)), (a_what, .inl (cI, 320, .inl what)), (a_jointUp, .inl (cI, 110, .inl jointUp))]
def wp_Model_joint  (thrown : Int32) (tree : Int32) (one : Nat → Int32) (two : Nat → Int32) (what : Nat → Int32) (nodes : Int32) (jointUp : Nat → Int32) (x1 : Int32) (x2 : Int32) (post : Int32 → Int32 → Prop) : Prop :=
  wp_Model_none thrown tree nodes x1 (fun r_2 thrown_1 => (r_2 = 0 → (¬ x1 = 0 → vp_in x1 110 ∧ wp_Model_itemOf what (jointUp (ix x1)) (-1) (fun r_3 => vp_in r_3 320 ∧ vp_in r_3 320 ∧ jn1 (fun (z_4 : Int32) => (¬ z_4 = x2 → vp_in r_3 320 ∧ post (one (ix r_3)) thrown_1) ∧ (z_4 = x2 → vp_in r_3 320 ∧ post (two (ix r_3)) thrown_1)) (fun (J_5 : Int32 → Prop) => ((two (ix r_3)) ≤ (one (ix r_3)) → J_5 0) ∧ (¬ (two (ix r_3)) ≤ (one (ix r_3)) → J_5 1)))) ∧ (x1 = 0 → post (-1) thrown_1)) ∧ (¬ r_2 = 0 → post 0 thrown_1))
set_option maxHeartbeats 4000000 in
set_option maxRecDepth 100000 in
theorem bd_Model_joint {p : Program} {l : Launch} {e : Env} {R : Room} {s : State} {m : MethodId} {args : Array Value} {below : List Frame} {meth : Method} {c : Code} {D : va_G} {A B : Nat → Prop} {Q : State → Prop} {cI cJ cZ : ClassId} {a_t a_ends a_there a_one a_two a_what a_piece a_kinds a_group a_many a_pieceOf a_numberOf a_ups a_jointUp a_partner a_beyonds a_gone : Nat} {thrown : Int32} {made : Int32} {tree : Int32} {items : Int32} {one : Nat → Int32} {two : Nat → Int32} {what : Nat → Int32} {pieces : Int32} {joints : Int32} {nodes : Int32} {jointUp : Nat → Int32} {x1 : Int32} {x2 : Int32} (K : sk_C p s m args meth c c_Model_joint 5 "SkeletonTreeModel" D (tyl cI cJ cZ)) (hR1 : 2 ≤ R.frames) (hR2 : 43 ≤ R.locals) (hBA : ∀ q : Nat, B q → A q) {post : Int32 → Int32 → Prop} (hend : ∀ (ti pc : Nat) (r : Int32) (y0 : Int32) (lv : List (Nat × Value)), t_Model_joint[ti]? = some (pc, .ireturn, 1) → post r y0 → AW p l e R s m args below meth c D A B 5 Q 0 0 (w_Model_joint cI cJ cZ a_t a_ends a_there a_one a_two a_what a_piece a_kinds a_group a_many a_pieceOf a_numberOf a_ups a_jointUp a_partner a_beyonds a_gone y0 made tree items one two what pieces joints nodes jointUp) lv pc [.int r]) (h : wp_Model_joint thrown tree one two what nodes jointUp x1 x2 post) : AW p l e R s m args below meth c D A B 5 Q 0 0 (w_Model_joint cI cJ cZ a_t a_ends a_there a_one a_two a_what a_piece a_kinds a_group a_many a_pieceOf a_numberOf a_ups a_jointUp a_partner a_beyonds a_gone thrown made tree items one two what pieces joints nodes jointUp) [(0, .ref a_t), (1, .int x1), (2, .int x2)] 0 [] := by
  unfold wp_Model_joint at h
  refine A_aload_n K d_Model_joint 0 0 (pc' := 1) rfl rfl rfl rfl ?_
  refine A_iload_n K d_Model_joint 1 1 (pc' := 2) rfl rfl rfl rfl ?_
  refine C_Vi1 K hBA d_Model_joint 2 [0] [some 0, none, none, none, none] (As := [.int x1]) (rest := []) (pc' := 5) (wl := fun thrown_1 => w_Model_none cI cJ cZ a_t a_ends a_there a_one a_two a_what a_piece a_kinds a_group a_many a_pieceOf a_numberOf a_ups a_jointUp a_partner a_beyonds a_gone thrown_1 made tree items pieces joints nodes) (ws' := fun thrown_1 => w_Model_joint cI cJ cZ a_t a_ends a_there a_one a_two a_what a_piece a_kinds a_group a_many a_pieceOf a_numberOf a_ups a_jointUp a_partner a_beyonds a_gone thrown_1 made tree items one two what pieces joints nodes jointUp) v_Model_176 ⟨rfl, rfl, Nat.le_trans (Nat.le_of_ble_eq_true rfl) hR1, Nat.le_trans (Nat.le_of_ble_eq_true rfl) hR2⟩ (fun sz => met_Model_none l D cI cJ cZ a_t a_ends a_there a_one a_two a_what a_piece a_kinds a_group a_many a_pieceOf a_numberOf a_ups a_jointUp a_partner a_beyonds a_gone thrown made tree items pieces joints nodes x1 _ sz) h rfl rfl rfl rfl rfl (fun _ => rfl) rfl (by decide) (Nat.le_of_ble_eq_true rfl) ⟨Nat.zero_le _, Nat.zero_le _⟩ (q0 := 0) rfl rfl (fun _ => rfl) (fun r_2 thrown_1 h => ?_)
  refine A_if_eq K d_Model_joint 3 10 (pc' := 8) rfl rfl rfl (fun q => ?_) (fun q => ?_)
  · replace h := h.1 q
    refine A_iload_n K d_Model_joint 6 1 (pc' := 11) rfl rfl rfl rfl ?_
    refine A_if_ne K d_Model_joint 7 16 (pc' := 14) rfl rfl rfl (fun q => ?_) (fun q => ?_)
    · replace h := h.1 q
      refine A_aload_n K d_Model_joint 10 0 (pc' := 17) rfl rfl rfl rfl ?_
      refine A_aload_n K d_Model_joint 11 0 (pc' := 18) rfl rfl rfl rfl ?_
      refine A_get K d_Model_joint 12 0 fl_Model_47 (pc' := 21) rfl rfl rfl rfl ?_
      refine A_iload_n K d_Model_joint 13 1 (pc' := 22) rfl rfl rfl rfl ?_
      refine A_iald K d_Model_joint 14 4 0 (pc' := 23) rfl rfl rfl rfl h.1 ?_
      replace h := h.2
      refine A_iconst K d_Model_joint 15 (pc' := 24) (v := (-1)) rfl rfl (by decide) ?_
      refine R_callV_i K d_Model_joint 16 [0, 3] (As := [.int (jointUp (ix x1)), .int (-1)]) (rest := []) (pc' := 27) v_Model_139 ⟨rfl, rfl, Nat.le_trans (Nat.le_of_ble_eq_true rfl) hR1, Nat.le_trans (Nat.le_of_ble_eq_true rfl) hR2⟩ (fun sz => met_Model_itemOf l D cI cJ cZ a_t a_ends a_there a_one a_two a_what a_piece a_kinds a_group a_many a_pieceOf a_numberOf a_ups a_jointUp a_partner a_beyonds a_gone thrown_1 made tree items what pieces joints nodes (jointUp (ix x1)) (-1) _ sz) h rfl rfl rfl rfl rfl rfl (Nat.le_of_ble_eq_true rfl) ⟨Nat.zero_le _, Nat.zero_le _⟩ (q0 := 0) rfl rfl (fun r_3 h => ?_)
      refine A_istore_n K d_Model_joint 17 (pc' := 28) (lv' := [(3, .int r_3), (0, .ref a_t), (1, .int x1), (2, .int x2)]) rfl rfl rfl (by decide) rfl ?_
      refine A_aload_n K d_Model_joint 18 1 (pc' := 29) rfl rfl rfl rfl ?_
      refine A_get K d_Model_joint 19 0 fl_Model_17 (pc' := 32) rfl rfl rfl rfl ?_
      refine A_iload_n K d_Model_joint 20 0 (pc' := 33) rfl rfl rfl rfl ?_
      refine A_iald K d_Model_joint 21 1 0 (pc' := 34) rfl rfl rfl rfl h.1 ?_
      replace h := h.2
      refine A_aload_n K d_Model_joint 22 1 (pc' := 35) rfl rfl rfl rfl ?_
      refine A_get K d_Model_joint 23 0 fl_Model_20 (pc' := 38) rfl rfl rfl rfl ?_
      refine A_iload_n K d_Model_joint 24 0 (pc' := 39) rfl rfl rfl rfl ?_
      refine A_iald K d_Model_joint 25 2 0 (pc' := 40) rfl rfl rfl rfl h.1 ?_
      replace h := h.2
      refine jn1_use (fun (z_4 : Int32) => AW p l e R s m args below meth c D A B 5 Q 0 0 (w_Model_joint cI cJ cZ a_t a_ends a_there a_one a_two a_what a_piece a_kinds a_group a_many a_pieceOf a_numberOf a_ups a_jointUp a_partner a_beyonds a_gone thrown_1 made tree items one two what pieces joints nodes jointUp) [(0, .ref a_t), (2, .int x2), (3, .int r_3)] 48 [.int z_4]) h ?_ ?_
      · intro z_4 h
        refine A_istore K d_Model_joint 30 (pc' := 50) (lv' := [(4, .int z_4), (0, .ref a_t), (2, .int x2), (3, .int r_3)]) rfl rfl (by decide) rfl ?_
        refine A_iload K d_Model_joint 31 0 (pc' := 52) rfl rfl rfl ?_
        refine A_iload_n K d_Model_joint 32 2 (pc' := 53) rfl rfl rfl rfl ?_
        refine A_icmp_ne K d_Model_joint 33 65 (pc' := 56) rfl rfl rfl (fun q => ?_) (fun q => ?_)
        · replace h := h.1 q
          refine A_aload_n K d_Model_joint 39 1 (pc' := 66) rfl rfl rfl rfl ?_
          refine A_get K d_Model_joint 40 0 fl_Model_17 (pc' := 69) rfl rfl rfl rfl ?_
          refine A_iload_n K d_Model_joint 41 3 (pc' := 70) rfl rfl rfl rfl ?_
          refine A_iald K d_Model_joint 42 1 0 (pc' := 71) rfl rfl rfl rfl h.1 ?_
          replace h := h.2
          exact hend 43 _ _ _ _ rfl h
        · replace h := h.2 q
          refine A_aload_n K d_Model_joint 34 1 (pc' := 57) rfl rfl rfl rfl ?_
          refine A_get K d_Model_joint 35 0 fl_Model_20 (pc' := 60) rfl rfl rfl rfl ?_
          refine A_iload_n K d_Model_joint 36 3 (pc' := 61) rfl rfl rfl rfl ?_
          refine A_iald K d_Model_joint 37 2 0 (pc' := 62) rfl rfl rfl rfl h.1 ?_
          replace h := h.2
          refine A_goto K d_Model_joint 38 (pc' := 71) rfl rfl ?_
          exact hend 43 _ _ _ _ rfl h
      · intro J_5 hJ_6 h
        refine A_icmp_ge K d_Model_joint 26 47 (pc' := 43) rfl rfl rfl (fun q => ?_) (fun q => ?_)
        · replace h := h.1 q
          refine A_iconst K d_Model_joint 29 (pc' := 48) (v := 0) rfl rfl (by decide) ?_
          refine A_lv [1, 3, 0] rfl ?_
          exact hJ_6 _ h
        · replace h := h.2 q
          refine A_iconst K d_Model_joint 27 (pc' := 44) (v := 1) rfl rfl (by decide) ?_
          refine A_goto K d_Model_joint 28 (pc' := 48) rfl rfl ?_
          refine A_lv [1, 3, 0] rfl ?_
          exact hJ_6 _ h
    · replace h := h.2 q
      refine A_iconst K d_Model_joint 8 (pc' := 15) (v := (-1)) rfl rfl (by decide) ?_
      exact hend 9 _ _ _ _ rfl h
  · replace h := h.2 q
    refine A_iconst K d_Model_joint 4 (pc' := 9) (v := 0) rfl rfl (by decide) ?_
    exact hend 5 _ _ _ _ rfl h
theorem met_Model_joint (l : Launch) (D : va_G) (cI cJ cZ : ClassId) (a_t a_ends a_there a_one a_two a_what a_piece a_kinds a_group a_many a_pieceOf a_numberOf a_ups a_jointUp a_partner a_beyonds a_gone : Nat) (thrown : Int32) (made : Int32) (tree : Int32) (items : Int32) (one : Nat → Int32) (two : Nat → Int32) (what : Nat → Int32) (pieces : Int32) (joints : Int32) (nodes : Int32) (jointUp : Nat → Int32) (x1 : Int32) (x2 : Int32) (post : Int32 → Int32 → Prop) (sz : Nat) : Met l y_Model_joint (Cond.code y_Model_joint c_Model_joint 5 (Option.some Jvm.ClassFile.FieldType.int) :: GW) { frames := 2, cells := 0, slots := 0, locals := 43 } (va_Pc [.ref a_t, .int x1, .int x2] (fun U => sk_P D (tyl cI cJ cZ) (w_Model_joint cI cJ cZ a_t a_ends a_there a_one a_two a_what a_piece a_kinds a_group a_many a_pieceOf a_numberOf a_ups a_jointUp a_partner a_beyonds a_gone thrown made tree items one two what pieces joints nodes jointUp) sz U ∧ wp_Model_joint thrown tree one two what nodes jointUp x1 x2 post)) (va_Qi (fun (r : Int32) (u : Int32) => post r u) (fun u t => sk_B D (tyl cI cJ cZ) (w_Model_joint cI cJ cZ a_t a_ends a_there a_one a_two a_what a_piece a_kinds a_group a_many a_pieceOf a_numberOf a_ups a_jointUp a_partner a_beyonds a_gone u made tree items one two what pieces joints nodes jointUp) (va_A (w_Model_joint cI cJ cZ a_t a_ends a_there a_one a_two a_what a_piece a_kinds a_group a_many a_pieceOf a_numberOf a_ups a_jointUp a_partner a_beyonds a_gone thrown made tree items one two what pieces joints nodes jointUp) sz) t) (va_A (w_Model_joint cI cJ cZ a_t a_ends a_there a_one a_two a_what a_piece a_kinds a_group a_many a_pieceOf a_numberOf a_ups a_jointUp a_partner a_beyonds a_gone thrown made tree items one two what pieces joints nodes jointUp) sz)) 0 0 (va_A (w_Model_joint cI cJ cZ a_t a_ends a_there a_one a_two a_what a_piece a_kinds a_group a_many a_pieceOf a_numberOf a_ups a_jointUp a_partner a_beyonds a_gone thrown made tree items one two what pieces joints nodes jointUp) sz) :=
  sk_intro (by decide) (Nat.le_of_ble_eq_true rfl) (fun p e s m below meth c K hr _ h => bd_Model_joint K (Nat.le_refl _) (Nat.le_refl _) (fun _ z => z) (fun ti pc r y0 lv hd hp => A_iret K d_Model_joint ti hr (post := (fun (r : Int32) (u : Int32) => post r u)) (wl := fun (u : Int32) => w_Model_joint cI cJ cZ a_t a_ends a_there a_one a_two a_what a_piece a_kinds a_group a_many a_pieceOf a_numberOf a_ups a_jointUp a_partner a_beyonds a_gone u made tree items one two what pieces joints nodes jointUp) y0 hd hp) h)
/-! SkeletonTreeModel.nodeOf(I)I -/
def t_Model_nodeOf : List (Nat × Instr × Nat) := [(0, .aload_n 0, 1), (1, .aload_n 0, 1), (2, .getfield 74, 3), (5, .ifCond .ne 7, 3), (8, .iconst 1, 1), (9, .goto 4, 3), (12, .iconst 0, 1), (13, .iconst 0, 1), (14, .invokevirtual 70, 3), (17, .ifCond .eq 5, 3), (20, .iconst 0, 1), (21, .ireturn, 1), (22, .iconst 0, 1), (23, .istore_n 2, 1), (24, .iload_n 2, 1), (25, .aload_n 0, 1), (26, .getfield 98, 3), (29, .if_icmp .ge 35, 3), (32, .aload_n 0, 1), (33, .getfield 23, 3), (36, .iload_n 2, 1), (37, .iaload, 1), (38, .iload_n 1, 1), (39, .if_icmp .ne 19, 3), (42, .iload_n 1, 1), (43, .ifCond .lt 15, 3), (46, .aload_n 0, 1), (47, .getfield 41, 3), (50, .aload_n 0, 1), (51, .getfield 26, 3), (54, .iload_n 2, 1), (55, .iaload, 1), (56, .iaload, 1), (57, .ireturn, 1), (58, .iinc 2 1, 3), (61, .goto (-37), 3), (64, .iconst (-1), 1), (65, .ireturn, 1)]
set_option maxRecDepth 100000 in
theorem d_Model_nodeOf : sk_T c_Model_nodeOf t_Model_nodeOf := by unfold sk_T t_Model_nodeOf; decide +kernel
def w_Model_nodeOf (cI cJ cZ : ClassId) (a_t a_ends a_there a_one a_two a_what a_piece a_kinds a_group a_many a_pieceOf a_numberOf a_ups a_jointUp a_partner a_beyonds a_gone : Nat) (thrown : Int32) (made : Int32) (tree : Int32) (items : Int32) (what : Nat → Int32) (piece : Nat → Int32) (pieces : Int32) (joints : Int32) (nodes : Int32) (numberOf : Nat → Int32) : va_W := [(a_t, .inr (5, [.int thrown, .int made, .ref a_ends, .ref a_there, .int tree, .int items, .ref a_one, .ref a_two, .ref a_what, .ref a_piece, .int pieces, .int joints, .ref a_kinds, .ref a_group, .ref a_many, .int nodes, .ref a_pieceOf, .ref a_numberOf, .ref a_ups, .ref a_jointUp, .ref a_partner, .ref a_beyonds, .ref a_gone])), (a_what, .inl (cI, 320, .inl what)), (a_piece, .inl (cI, 320, .inl piece)), (a_numberOf, .inl (cI, 110, .inl numberOf))]
def wp_Model_nodeOf  (thrown : Int32) (tree : Int32) (items : Int32) (what : Nat → Int32) (piece : Nat → Int32) (numberOf : Nat → Int32) (x1 : Int32) (post : Int32 → Int32 → Prop) : Prop :=
  jn1 (fun (z_1 : Int32) => wp_Model_refused thrown z_1 0 (fun r_5 thrown_4 => (r_5 = 0 → ∃ n, sL1 (fun (K_7 : Int32 → Prop) (i2_6 : Int32) => (items ≤ i2_6 → post (-1) thrown_4) ∧ (¬ items ≤ i2_6 → vp_in i2_6 320 ∧ (¬ (what (ix i2_6)) = x1 → K_7 (i2_6 + 1)) ∧ ((what (ix i2_6)) = x1 → (x1 < 0 → K_7 (i2_6 + 1)) ∧ (¬ x1 < 0 → vp_in i2_6 320 ∧ vp_in (piece (ix i2_6)) 110 ∧ ∀ x_10 : Int32, x_10 = numberOf (ix (piece (ix i2_6))) → post x_10 thrown_4)))) n 0) ∧ (¬ r_5 = 0 → post 0 thrown_4))) (fun (J_2 : Int32 → Prop) => (¬ tree = 0 → J_2 0) ∧ (tree = 0 → J_2 1))
set_option maxHeartbeats 4000000 in
set_option maxRecDepth 100000 in
theorem bd_Model_nodeOf {p : Program} {l : Launch} {e : Env} {R : Room} {s : State} {m : MethodId} {args : Array Value} {below : List Frame} {meth : Method} {c : Code} {D : va_G} {A B : Nat → Prop} {Q : State → Prop} {cI cJ cZ : ClassId} {a_t a_ends a_there a_one a_two a_what a_piece a_kinds a_group a_many a_pieceOf a_numberOf a_ups a_jointUp a_partner a_beyonds a_gone : Nat} {thrown : Int32} {made : Int32} {tree : Int32} {items : Int32} {what : Nat → Int32} {piece : Nat → Int32} {pieces : Int32} {joints : Int32} {nodes : Int32} {numberOf : Nat → Int32} {x1 : Int32} (K : sk_C p s m args meth c c_Model_nodeOf 3 "SkeletonTreeModel" D (tyl cI cJ cZ)) (hR1 : 1 ≤ R.frames) (hR2 : 22 ≤ R.locals) (hBA : ∀ q : Nat, B q → A q) {post : Int32 → Int32 → Prop} (hend : ∀ (ti pc : Nat) (r : Int32) (y0 : Int32) (lv : List (Nat × Value)), t_Model_nodeOf[ti]? = some (pc, .ireturn, 1) → post r y0 → AW p l e R s m args below meth c D A B 3 Q 0 0 (w_Model_nodeOf cI cJ cZ a_t a_ends a_there a_one a_two a_what a_piece a_kinds a_group a_many a_pieceOf a_numberOf a_ups a_jointUp a_partner a_beyonds a_gone y0 made tree items what piece pieces joints nodes numberOf) lv pc [.int r]) (h : wp_Model_nodeOf thrown tree items what piece numberOf x1 post) : AW p l e R s m args below meth c D A B 3 Q 0 0 (w_Model_nodeOf cI cJ cZ a_t a_ends a_there a_one a_two a_what a_piece a_kinds a_group a_many a_pieceOf a_numberOf a_ups a_jointUp a_partner a_beyonds a_gone thrown made tree items what piece pieces joints nodes numberOf) [(0, .ref a_t), (1, .int x1)] 0 [] := by
  unfold wp_Model_nodeOf at h
  refine A_aload_n K d_Model_nodeOf 0 0 (pc' := 1) rfl rfl rfl rfl ?_
  refine A_aload_n K d_Model_nodeOf 1 0 (pc' := 2) rfl rfl rfl rfl ?_
  refine A_get K d_Model_nodeOf 2 0 fl_Model_74 (pc' := 5) rfl rfl rfl rfl ?_
  refine jn1_use (fun (z_1 : Int32) => AW p l e R s m args below meth c D A B 3 Q 0 0 (w_Model_nodeOf cI cJ cZ a_t a_ends a_there a_one a_two a_what a_piece a_kinds a_group a_many a_pieceOf a_numberOf a_ups a_jointUp a_partner a_beyonds a_gone thrown made tree items what piece pieces joints nodes numberOf) [(0, .ref a_t), (1, .int x1)] 13 [.int z_1, .ref a_t]) h ?_ ?_
  · intro z_1 h
    refine A_iconst K d_Model_nodeOf 7 (pc' := 14) (v := 0) rfl rfl (by decide) ?_
    refine C_Vi1 K hBA d_Model_nodeOf 8 [0] [some 0, none, none, none] (As := [.int z_1, .int 0]) (rest := []) (pc' := 17) (wl := fun thrown_4 => w_Model_refused cI cJ cZ a_t a_ends a_there a_one a_two a_what a_piece a_kinds a_group a_many a_pieceOf a_numberOf a_ups a_jointUp a_partner a_beyonds a_gone thrown_4 made tree items pieces joints nodes) (ws' := fun thrown_4 => w_Model_nodeOf cI cJ cZ a_t a_ends a_there a_one a_two a_what a_piece a_kinds a_group a_many a_pieceOf a_numberOf a_ups a_jointUp a_partner a_beyonds a_gone thrown_4 made tree items what piece pieces joints nodes numberOf) v_Model_70 ⟨rfl, rfl, Nat.le_trans (Nat.le_of_ble_eq_true rfl) hR1, Nat.le_trans (Nat.le_of_ble_eq_true rfl) hR2⟩ (fun sz => met_Model_refused l D cI cJ cZ a_t a_ends a_there a_one a_two a_what a_piece a_kinds a_group a_many a_pieceOf a_numberOf a_ups a_jointUp a_partner a_beyonds a_gone thrown made tree items pieces joints nodes z_1 0 _ sz) h rfl rfl rfl rfl rfl (fun _ => rfl) rfl (by decide) (Nat.le_of_ble_eq_true rfl) ⟨Nat.zero_le _, Nat.zero_le _⟩ (q0 := 0) rfl rfl (fun _ => rfl) (fun r_5 thrown_4 h => ?_)
    refine A_if_eq K d_Model_nodeOf 9 22 (pc' := 20) rfl rfl rfl (fun q => ?_) (fun q => ?_)
    · replace h := h.1 q
      refine A_iconst K d_Model_nodeOf 12 (pc' := 23) (v := 0) rfl rfl (by decide) ?_
      refine A_istore_n K d_Model_nodeOf 13 (pc' := 24) (lv' := [(2, .int 0), (0, .ref a_t), (1, .int x1)]) rfl rfl rfl (by decide) rfl ?_
      refine A_lv [1, 2, 0] rfl ?_
      obtain ⟨n_9, h⟩ := h
      refine sL1_ind (fun (i2_6 : Int32) => AW p l e R s m args below meth c D A B 3 Q 0 0 (w_Model_nodeOf cI cJ cZ a_t a_ends a_there a_one a_two a_what a_piece a_kinds a_group a_many a_pieceOf a_numberOf a_ups a_jointUp a_partner a_beyonds a_gone thrown_4 made tree items what piece pieces joints nodes numberOf) [(0, .ref a_t), (1, .int x1), (2, .int i2_6)] 24 []) ?_ n_9 _ h
      intro K_7 ih_8 i2_6 h
      refine A_iload_n K d_Model_nodeOf 14 2 (pc' := 25) rfl rfl rfl rfl ?_
      refine A_aload_n K d_Model_nodeOf 15 0 (pc' := 26) rfl rfl rfl rfl ?_
      refine A_get K d_Model_nodeOf 16 0 fl_Model_98 (pc' := 29) rfl rfl rfl rfl ?_
      refine A_icmp_ge K d_Model_nodeOf 17 64 (pc' := 32) rfl rfl rfl (fun q => ?_) (fun q => ?_)
      · replace h := h.1 q
        refine A_iconst K d_Model_nodeOf 36 (pc' := 65) (v := (-1)) rfl rfl (by decide) ?_
        exact hend 37 _ _ _ _ rfl h
      · replace h := h.2 q
        refine A_aload_n K d_Model_nodeOf 18 0 (pc' := 33) rfl rfl rfl rfl ?_
        refine A_get K d_Model_nodeOf 19 0 fl_Model_23 (pc' := 36) rfl rfl rfl rfl ?_
        refine A_iload_n K d_Model_nodeOf 20 2 (pc' := 37) rfl rfl rfl rfl ?_
        refine A_iald K d_Model_nodeOf 21 1 0 (pc' := 38) rfl rfl rfl rfl h.1 ?_
        replace h := h.2
        refine A_iload_n K d_Model_nodeOf 22 1 (pc' := 39) rfl rfl rfl rfl ?_
        refine A_icmp_ne K d_Model_nodeOf 23 58 (pc' := 42) rfl rfl rfl (fun q => ?_) (fun q => ?_)
        · replace h := h.1 q
          refine A_iinc K d_Model_nodeOf 34 2 (pc' := 61) (v := i2_6 + 1) (lv' := [(2, .int (i2_6 + 1)), (0, .ref a_t), (1, .int x1)]) rfl rfl rfl rfl (by decide) rfl ?_
          refine A_goto K d_Model_nodeOf 35 (pc' := 24) rfl rfl ?_
          refine A_lv [1, 2, 0] rfl ?_
          exact ih_8 _ h
        · replace h := h.2 q
          refine A_iload_n K d_Model_nodeOf 24 1 (pc' := 43) rfl rfl rfl rfl ?_
          refine A_if_lt K d_Model_nodeOf 25 58 (pc' := 46) rfl rfl rfl (fun q => ?_) (fun q => ?_)
          · replace h := h.1 q
            refine A_iinc K d_Model_nodeOf 34 2 (pc' := 61) (v := i2_6 + 1) (lv' := [(2, .int (i2_6 + 1)), (0, .ref a_t), (1, .int x1)]) rfl rfl rfl rfl (by decide) rfl ?_
            refine A_goto K d_Model_nodeOf 35 (pc' := 24) rfl rfl ?_
            refine A_lv [1, 2, 0] rfl ?_
            exact ih_8 _ h
          · replace h := h.2 q
            refine A_aload_n K d_Model_nodeOf 26 0 (pc' := 47) rfl rfl rfl rfl ?_
            refine A_get K d_Model_nodeOf 27 0 fl_Model_41 (pc' := 50) rfl rfl rfl rfl ?_
            refine A_aload_n K d_Model_nodeOf 28 0 (pc' := 51) rfl rfl rfl rfl ?_
            refine A_get K d_Model_nodeOf 29 0 fl_Model_26 (pc' := 54) rfl rfl rfl rfl ?_
            refine A_iload_n K d_Model_nodeOf 30 2 (pc' := 55) rfl rfl rfl rfl ?_
            refine A_iald K d_Model_nodeOf 31 2 0 (pc' := 56) rfl rfl rfl rfl h.1 ?_
            replace h := h.2
            refine A_iald K d_Model_nodeOf 32 3 0 (pc' := 57) rfl rfl rfl rfl h.1 ?_
            replace h := h.2
            refine A_topi (fun x_10 e_11 => ?_)
            replace h := h x_10 e_11
            exact hend 33 _ _ _ _ rfl h
    · replace h := h.2 q
      refine A_iconst K d_Model_nodeOf 10 (pc' := 21) (v := 0) rfl rfl (by decide) ?_
      exact hend 11 _ _ _ _ rfl h
  · intro J_2 hJ_3 h
    refine A_if_ne K d_Model_nodeOf 3 12 (pc' := 8) rfl rfl rfl (fun q => ?_) (fun q => ?_)
    · replace h := h.1 q
      refine A_iconst K d_Model_nodeOf 6 (pc' := 13) (v := 0) rfl rfl (by decide) ?_
      refine A_lv [0, 1] rfl ?_
      exact hJ_3 _ h
    · replace h := h.2 q
      refine A_iconst K d_Model_nodeOf 4 (pc' := 9) (v := 1) rfl rfl (by decide) ?_
      refine A_goto K d_Model_nodeOf 5 (pc' := 13) rfl rfl ?_
      refine A_lv [0, 1] rfl ?_
      exact hJ_3 _ h
theorem met_Model_nodeOf (l : Launch) (D : va_G) (cI cJ cZ : ClassId) (a_t a_ends a_there a_one a_two a_what a_piece a_kinds a_group a_many a_pieceOf a_numberOf a_ups a_jointUp a_partner a_beyonds a_gone : Nat) (thrown : Int32) (made : Int32) (tree : Int32) (items : Int32) (what : Nat → Int32) (piece : Nat → Int32) (pieces : Int32) (joints : Int32) (nodes : Int32) (numberOf : Nat → Int32) (x1 : Int32) (post : Int32 → Int32 → Prop) (sz : Nat) : Met l y_Model_nodeOf (Cond.code y_Model_nodeOf c_Model_nodeOf 3 (Option.some Jvm.ClassFile.FieldType.int) :: GW) { frames := 1, cells := 0, slots := 0, locals := 22 } (va_Pc [.ref a_t, .int x1] (fun U => sk_P D (tyl cI cJ cZ) (w_Model_nodeOf cI cJ cZ a_t a_ends a_there a_one a_two a_what a_piece a_kinds a_group a_many a_pieceOf a_numberOf a_ups a_jointUp a_partner a_beyonds a_gone thrown made tree items what piece pieces joints nodes numberOf) sz U ∧ wp_Model_nodeOf thrown tree items what piece numberOf x1 post)) (va_Qi (fun (r : Int32) (u : Int32) => post r u) (fun u t => sk_B D (tyl cI cJ cZ) (w_Model_nodeOf cI cJ cZ a_t a_ends a_there a_one a_two a_what a_piece a_kinds a_group a_many a_pieceOf a_numberOf a_ups a_jointUp a_partner a_beyonds a_gone u made tree items what piece pieces joints nodes numberOf) (va_A (w_Model_nodeOf cI cJ cZ a_t a_ends a_there a_one a_two a_what a_piece a_kinds a_group a_many a_pieceOf a_numberOf a_ups a_jointUp a_partner a_beyonds a_gone thrown made tree items what piece pieces joints nodes numberOf) sz) t) (va_A (w_Model_nodeOf cI cJ cZ a_t a_ends a_there a_one a_two a_what a_piece a_kinds a_group a_many a_pieceOf a_numberOf a_ups a_jointUp a_partner a_beyonds a_gone thrown made tree items what piece pieces joints nodes numberOf) sz)) 0 0 (va_A (w_Model_nodeOf cI cJ cZ a_t a_ends a_there a_one a_two a_what a_piece a_kinds a_group a_many a_pieceOf a_numberOf a_ups a_jointUp a_partner a_beyonds a_gone thrown made tree items what piece pieces joints nodes numberOf) sz) :=
  sk_intro (by decide) (Nat.le_of_ble_eq_true rfl) (fun p e s m below meth c K hr _ h => bd_Model_nodeOf K (Nat.le_refl _) (Nat.le_refl _) (fun _ z => z) (fun ti pc r y0 lv hd hp => A_iret K d_Model_nodeOf ti hr (post := (fun (r : Int32) (u : Int32) => post r u)) (wl := fun (u : Int32) => w_Model_nodeOf cI cJ cZ a_t a_ends a_there a_one a_two a_what a_piece a_kinds a_group a_many a_pieceOf a_numberOf a_ups a_jointUp a_partner a_beyonds a_gone u made tree items what piece pieces joints nodes numberOf) y0 hd hp) h)
/-! SkeletonTreeModel.has(II)Z -/
def t_Model_has : List (Nat × Instr × Nat) := [(0, .aload_n 0, 1), (1, .iload_n 1, 1), (2, .invokevirtual 176, 3), (5, .ifCond .eq 5, 3), (8, .iconst 0, 1), (9, .ireturn, 1), (10, .aload_n 0, 1), (11, .iload_n 2, 1), (12, .invokestatic 66, 3), (15, .ifCond .eq 7, 3), (18, .iconst 0, 1), (19, .goto 4, 3), (22, .iconst 2, 1), (23, .putfield 63, 3), (26, .aload_n 0, 1), (27, .getfield 63, 3), (30, .ifCond .ne 21, 3), (33, .aload_n 0, 1), (34, .aload_n 0, 1), (35, .getfield 38, 3), (38, .iload_n 1, 1), (39, .iaload, 1), (40, .iload_n 2, 1), (41, .invokevirtual 120, 3), (44, .ifCond .eq 7, 3), (47, .iconst 1, 1), (48, .goto 4, 3), (51, .iconst 0, 1), (52, .ireturn, 1)]
set_option maxRecDepth 100000 in
theorem d_Model_has : sk_T c_Model_has t_Model_has := by unfold sk_T t_Model_has; decide +kernel
def w_Model_has (cI cJ cZ : ClassId) (a_t a_ends a_there a_one a_two a_what a_piece a_kinds a_group a_many a_pieceOf a_numberOf a_ups a_jointUp a_partner a_beyonds a_gone : Nat) (thrown : Int32) (made : Int32) (tree : Int32) (items : Int32) (one : Nat → Int32) (two : Nat → Int32) (piece : Nat → Int32) (pieces : Int32) (joints : Int32) (nodes : Int32) (pieceOf : Nat → Int32) : va_W := [(a_t, .inr (5, [.int thrown, .int made, .ref a_ends, .ref a_there, .int tree, .int items, .ref a_one, .ref a_two, .ref a_what, .ref a_piece, .int pieces, .int joints, .ref a_kinds, .ref a_group, .ref a_many, .int nodes, .ref a_pieceOf, .ref a_numberOf, .ref a_ups, .ref a_jointUp, .ref a_partner, .ref a_beyonds, .ref a_gone])), (a_one, .inl (cI, 320, .inl one)), (a_two, .inl (cI, 320, .inl two)), (a_piece, .inl (cI, 320, .inl piece)), (a_pieceOf, .inl (cI, 110, .inl pieceOf))]
def wp_Model_has  (thrown : Int32) (tree : Int32) (items : Int32) (one : Nat → Int32) (two : Nat → Int32) (piece : Nat → Int32) (nodes : Int32) (pieceOf : Nat → Int32) (x1 : Int32) (x2 : Int32) (post : Int32 → Int32 → Prop) : Prop :=
  wp_Model_none thrown tree nodes x1 (fun r_2 thrown_1 => (r_2 = 0 → wp_Model_isPoint x2 (fun r_3 => jn1 (fun (z_4 : Int32) => (¬ z_4 = 0 → post 0 z_4) ∧ (z_4 = 0 → vp_in x1 110 ∧ wp_Model_hasPoint items one two piece (pieceOf (ix x1)) x2 (fun r_7 => (r_7 = 0 → post 0 z_4) ∧ (¬ r_7 = 0 → post 1 z_4)))) (fun (J_5 : Int32 → Prop) => (r_3 = 0 → J_5 2) ∧ (¬ r_3 = 0 → J_5 0)))) ∧ (¬ r_2 = 0 → post 0 thrown_1))
set_option maxHeartbeats 4000000 in
set_option maxRecDepth 100000 in
theorem bd_Model_has {p : Program} {l : Launch} {e : Env} {R : Room} {s : State} {m : MethodId} {args : Array Value} {below : List Frame} {meth : Method} {c : Code} {D : va_G} {A B : Nat → Prop} {Q : State → Prop} {cI cJ cZ : ClassId} {a_t a_ends a_there a_one a_two a_what a_piece a_kinds a_group a_many a_pieceOf a_numberOf a_ups a_jointUp a_partner a_beyonds a_gone : Nat} {thrown : Int32} {made : Int32} {tree : Int32} {items : Int32} {one : Nat → Int32} {two : Nat → Int32} {piece : Nat → Int32} {pieces : Int32} {joints : Int32} {nodes : Int32} {pieceOf : Nat → Int32} {x1 : Int32} {x2 : Int32} (K : sk_C p s m args meth c c_Model_has 3 "SkeletonTreeModel" D (tyl cI cJ cZ)) (hR1 : 2 ≤ R.frames) (hR2 : 45 ≤ R.locals) (hBA : ∀ q : Nat, B q → A q) {post : Int32 → Int32 → Prop} (hend : ∀ (ti pc : Nat) (r : Int32) (y0 : Int32) (lv : List (Nat × Value)), t_Model_has[ti]? = some (pc, .ireturn, 1) → sk_b r → post r y0 → AW p l e R s m args below meth c D A B 3 Q 0 0 (w_Model_has cI cJ cZ a_t a_ends a_there a_one a_two a_what a_piece a_kinds a_group a_many a_pieceOf a_numberOf a_ups a_jointUp a_partner a_beyonds a_gone y0 made tree items one two piece pieces joints nodes pieceOf) lv pc [.int r]) (h : wp_Model_has thrown tree items one two piece nodes pieceOf x1 x2 post) : AW p l e R s m args below meth c D A B 3 Q 0 0 (w_Model_has cI cJ cZ a_t a_ends a_there a_one a_two a_what a_piece a_kinds a_group a_many a_pieceOf a_numberOf a_ups a_jointUp a_partner a_beyonds a_gone thrown made tree items one two piece pieces joints nodes pieceOf) [(0, .ref a_t), (1, .int x1), (2, .int x2)] 0 [] := by
  unfold wp_Model_has at h
  refine A_aload_n K d_Model_has 0 0 (pc' := 1) rfl rfl rfl rfl ?_
  refine A_iload_n K d_Model_has 1 1 (pc' := 2) rfl rfl rfl rfl ?_
  refine C_Vi1 K hBA d_Model_has 2 [0] [some 0, none, none, none, none] (As := [.int x1]) (rest := []) (pc' := 5) (wl := fun thrown_1 => w_Model_none cI cJ cZ a_t a_ends a_there a_one a_two a_what a_piece a_kinds a_group a_many a_pieceOf a_numberOf a_ups a_jointUp a_partner a_beyonds a_gone thrown_1 made tree items pieces joints nodes) (ws' := fun thrown_1 => w_Model_has cI cJ cZ a_t a_ends a_there a_one a_two a_what a_piece a_kinds a_group a_many a_pieceOf a_numberOf a_ups a_jointUp a_partner a_beyonds a_gone thrown_1 made tree items one two piece pieces joints nodes pieceOf) v_Model_176 ⟨rfl, rfl, Nat.le_trans (Nat.le_of_ble_eq_true rfl) hR1, Nat.le_trans (Nat.le_of_ble_eq_true rfl) hR2⟩ (fun sz => met_Model_none l D cI cJ cZ a_t a_ends a_there a_one a_two a_what a_piece a_kinds a_group a_many a_pieceOf a_numberOf a_ups a_jointUp a_partner a_beyonds a_gone thrown made tree items pieces joints nodes x1 _ sz) h rfl rfl rfl rfl rfl (fun _ => rfl) rfl (by decide) (Nat.le_of_ble_eq_true rfl) ⟨Nat.zero_le _, Nat.zero_le _⟩ (q0 := 0) rfl rfl (fun _ => rfl) (fun r_2 thrown_1 h => ?_)
  refine A_if_eq K d_Model_has 3 10 (pc' := 8) rfl rfl rfl (fun q => ?_) (fun q => ?_)
  · replace h := h.1 q
    refine A_aload_n K d_Model_has 6 0 (pc' := 11) rfl rfl rfl rfl ?_
    refine A_iload_n K d_Model_has 7 2 (pc' := 12) rfl rfl rfl rfl ?_
    refine R_callS_i K d_Model_has 8 [] (As := [.int x2]) (rest := [.ref a_t]) (pc' := 15) v_Model_66 ⟨rfl, rfl, Nat.le_trans (Nat.le_of_ble_eq_true rfl) hR1, Nat.le_trans (Nat.le_of_ble_eq_true rfl) hR2⟩ (fun sz => met_Model_isPoint l D cI cJ cZ x2 _ sz) h rfl rfl rfl rfl rfl rfl (Nat.le_of_ble_eq_true rfl) ⟨Nat.zero_le _, Nat.zero_le _⟩ (fun r_3 h => ?_)
    refine jn1_use (fun (z_4 : Int32) => AW p l e R s m args below meth c D A B 3 Q 0 0 (w_Model_has cI cJ cZ a_t a_ends a_there a_one a_two a_what a_piece a_kinds a_group a_many a_pieceOf a_numberOf a_ups a_jointUp a_partner a_beyonds a_gone thrown_1 made tree items one two piece pieces joints nodes pieceOf) [(0, .ref a_t), (1, .int x1), (2, .int x2)] 23 [.int z_4, .ref a_t]) h ?_ ?_
    · intro z_4 h
      refine A_put K hBA d_Model_has 13 0 fp_Model_63 (pc' := 26) (ws' := w_Model_has cI cJ cZ a_t a_ends a_there a_one a_two a_what a_piece a_kinds a_group a_many a_pieceOf a_numberOf a_ups a_jointUp a_partner a_beyonds a_gone z_4 made tree items one two piece pieces joints nodes pieceOf) rfl rfl rfl (Nat.le_of_ble_eq_true rfl) rfl rfl rfl ?_
      refine A_aload_n K d_Model_has 14 0 (pc' := 27) rfl rfl rfl rfl ?_
      refine A_get K d_Model_has 15 0 fl_Model_63 (pc' := 30) rfl rfl rfl rfl ?_
      refine A_if_ne K d_Model_has 16 51 (pc' := 33) rfl rfl rfl (fun q => ?_) (fun q => ?_)
      · replace h := h.1 q
        refine A_iconst K d_Model_has 27 (pc' := 52) (v := 0) rfl rfl (by decide) ?_
        exact hend 28 _ _ _ _ rfl (Or.inl rfl) h
      · replace h := h.2 q
        refine A_aload_n K d_Model_has 17 0 (pc' := 34) rfl rfl rfl rfl ?_
        refine A_aload_n K d_Model_has 18 0 (pc' := 35) rfl rfl rfl rfl ?_
        refine A_get K d_Model_has 19 0 fl_Model_38 (pc' := 38) rfl rfl rfl rfl ?_
        refine A_iload_n K d_Model_has 20 1 (pc' := 39) rfl rfl rfl rfl ?_
        refine A_iald K d_Model_has 21 4 0 (pc' := 40) rfl rfl rfl rfl h.1 ?_
        replace h := h.2
        refine A_iload_n K d_Model_has 22 2 (pc' := 41) rfl rfl rfl rfl ?_
        refine R_callV_i K d_Model_has 23 [0, 1, 2, 3] (As := [.int (pieceOf (ix x1)), .int x2]) (rest := []) (pc' := 44) v_Model_120 ⟨rfl, rfl, Nat.le_trans (Nat.le_of_ble_eq_true rfl) hR1, Nat.le_trans (Nat.le_of_ble_eq_true rfl) hR2⟩ (fun sz => met_Model_hasPoint l D cI cJ cZ a_t a_ends a_there a_one a_two a_what a_piece a_kinds a_group a_many a_pieceOf a_numberOf a_ups a_jointUp a_partner a_beyonds a_gone z_4 made tree items one two piece pieces joints nodes (pieceOf (ix x1)) x2 _ sz) h rfl rfl rfl rfl rfl rfl (Nat.le_of_ble_eq_true rfl) ⟨Nat.zero_le _, Nat.zero_le _⟩ (q0 := 0) rfl rfl (fun r_7 h => ?_)
        refine A_if_eq K d_Model_has 24 51 (pc' := 47) rfl rfl rfl (fun q => ?_) (fun q => ?_)
        · replace h := h.1 q
          refine A_iconst K d_Model_has 27 (pc' := 52) (v := 0) rfl rfl (by decide) ?_
          exact hend 28 _ _ _ _ rfl (Or.inl rfl) h
        · replace h := h.2 q
          refine A_iconst K d_Model_has 25 (pc' := 48) (v := 1) rfl rfl (by decide) ?_
          refine A_goto K d_Model_has 26 (pc' := 52) rfl rfl ?_
          exact hend 28 _ _ _ _ rfl (Or.inr rfl) h
    · intro J_5 hJ_6 h
      refine A_if_eq K d_Model_has 9 22 (pc' := 18) rfl rfl rfl (fun q => ?_) (fun q => ?_)
      · replace h := h.1 q
        refine A_iconst K d_Model_has 12 (pc' := 23) (v := 2) rfl rfl (by decide) ?_
        refine A_lv [0, 1, 2] rfl ?_
        exact hJ_6 _ h
      · replace h := h.2 q
        refine A_iconst K d_Model_has 10 (pc' := 19) (v := 0) rfl rfl (by decide) ?_
        refine A_goto K d_Model_has 11 (pc' := 23) rfl rfl ?_
        refine A_lv [0, 1, 2] rfl ?_
        exact hJ_6 _ h
  · replace h := h.2 q
    refine A_iconst K d_Model_has 4 (pc' := 9) (v := 0) rfl rfl (by decide) ?_
    exact hend 5 _ _ _ _ rfl (Or.inl rfl) h
theorem met_Model_has (l : Launch) (D : va_G) (cI cJ cZ : ClassId) (a_t a_ends a_there a_one a_two a_what a_piece a_kinds a_group a_many a_pieceOf a_numberOf a_ups a_jointUp a_partner a_beyonds a_gone : Nat) (thrown : Int32) (made : Int32) (tree : Int32) (items : Int32) (one : Nat → Int32) (two : Nat → Int32) (piece : Nat → Int32) (pieces : Int32) (joints : Int32) (nodes : Int32) (pieceOf : Nat → Int32) (x1 : Int32) (x2 : Int32) (post : Int32 → Int32 → Prop) (sz : Nat) : Met l y_Model_has (Cond.code y_Model_has c_Model_has 3 (Option.some Jvm.ClassFile.FieldType.boolean) :: GW) { frames := 2, cells := 0, slots := 0, locals := 45 } (va_Pc [.ref a_t, .int x1, .int x2] (fun U => sk_P D (tyl cI cJ cZ) (w_Model_has cI cJ cZ a_t a_ends a_there a_one a_two a_what a_piece a_kinds a_group a_many a_pieceOf a_numberOf a_ups a_jointUp a_partner a_beyonds a_gone thrown made tree items one two piece pieces joints nodes pieceOf) sz U ∧ wp_Model_has thrown tree items one two piece nodes pieceOf x1 x2 post)) (va_Qi (fun (r : Int32) (u : Int32) => post r u) (fun u t => sk_B D (tyl cI cJ cZ) (w_Model_has cI cJ cZ a_t a_ends a_there a_one a_two a_what a_piece a_kinds a_group a_many a_pieceOf a_numberOf a_ups a_jointUp a_partner a_beyonds a_gone u made tree items one two piece pieces joints nodes pieceOf) (va_A (w_Model_has cI cJ cZ a_t a_ends a_there a_one a_two a_what a_piece a_kinds a_group a_many a_pieceOf a_numberOf a_ups a_jointUp a_partner a_beyonds a_gone thrown made tree items one two piece pieces joints nodes pieceOf) sz) t) (va_A (w_Model_has cI cJ cZ a_t a_ends a_there a_one a_two a_what a_piece a_kinds a_group a_many a_pieceOf a_numberOf a_ups a_jointUp a_partner a_beyonds a_gone thrown made tree items one two piece pieces joints nodes pieceOf) sz)) 0 0 (va_A (w_Model_has cI cJ cZ a_t a_ends a_there a_one a_two a_what a_piece a_kinds a_group a_many a_pieceOf a_numberOf a_ups a_jointUp a_partner a_beyonds a_gone thrown made tree items one two piece pieces joints nodes pieceOf) sz) :=
  sk_intro (by decide) (Nat.le_of_ble_eq_true rfl) (fun p e s m below meth c K hr _ h => bd_Model_has K (Nat.le_refl _) (Nat.le_refl _) (fun _ z => z) (fun ti pc r y0 lv hd hb hp => A_zret K d_Model_has ti hr (post := (fun (r : Int32) (u : Int32) => post r u)) (wl := fun (u : Int32) => w_Model_has cI cJ cZ a_t a_ends a_there a_one a_two a_what a_piece a_kinds a_group a_many a_pieceOf a_numberOf a_ups a_jointUp a_partner a_beyonds a_gone u made tree items one two piece pieces joints nodes pieceOf) y0 hd hb hp) h)
/-! SkeletonTreeModel.isPair(II)Z -/
def t_Model_isPair : List (Nat × Instr × Nat) := [(0, .aload_n 0, 1), (1, .aload_n 0, 1), (2, .getfield 74, 3), (5, .ifCond .ne 7, 3), (8, .iconst 1, 1), (9, .goto 4, 3), (12, .iconst 0, 1), (13, .aload_n 0, 1), (14, .getfield 74, 3), (17, .ifCond .eq 21, 3), (20, .iload_n 1, 1), (21, .invokestatic 66, 3), (24, .ifCond .eq 10, 3), (27, .iload_n 2, 1), (28, .invokestatic 66, 3), (31, .ifCond .ne 7, 3), (34, .iconst 1, 1), (35, .goto 4, 3), (38, .iconst 0, 1), (39, .invokevirtual 70, 3), (42, .ifCond .eq 5, 3), (45, .iconst 0, 1), (46, .ireturn, 1), (47, .iload_n 1, 1), (48, .iload_n 2, 1), (49, .if_icmp .ne 5, 3), (52, .iconst 0, 1), (53, .ireturn, 1), (54, .iconst 0, 1), (55, .istore_n 3, 1), (56, .iload_n 3, 1), (57, .bipush 40, 2), (59, .if_icmp .ge 16, 3), (62, .aload_n 0, 1), (63, .getfield 35, 3), (66, .iload_n 3, 1), (67, .iconst 0, 1), (68, .iastore, 1), (69, .iinc 3 1, 3), (72, .goto (-16), 3), (75, .aload_n 0, 1), (76, .iload_n 1, 1), (77, .iload_n 2, 1), (78, .invokevirtual 85, 3), (81, .iconst 0, 1), (82, .istore_n 3, 1), (83, .iconst 0, 1), (84, .istore 4, 2), (86, .iconst 0, 1), (87, .istore 5, 2), (89, .iload 5, 2), (91, .aload_n 0, 1), (92, .getfield 59, 3), (95, .if_icmp .ge 131, 3), (98, .aload_n 0, 1), (99, .getfield 13, 3), (102, .iload 5, 2), (104, .baload, 1), (105, .ifCond .eq 115, 3), (108, .aload_n 0, 1), (109, .getfield 7, 3), (112, .iconst 2, 1), (113, .iload 5, 2), (115, .imul, 1), (116, .iaload, 1), (117, .istore 6, 2), (119, .aload_n 0, 1), (120, .getfield 7, 3), (123, .iconst 2, 1), (124, .iload 5, 2), (126, .imul, 1), (127, .iconst 1, 1), (128, .iadd, 1), (129, .iaload, 1), (130, .istore 7, 2), (132, .iload 6, 2), (134, .iload_n 1, 1), (135, .if_icmp .eq 9, 3), (138, .iload 6, 2), (140, .iload_n 2, 1), (141, .if_icmp .ne 19, 3), (144, .iload 7, 2), (146, .iload_n 1, 1), (147, .if_icmp .eq 9, 3), (150, .iload 7, 2), (152, .iload_n 2, 1), (153, .if_icmp .ne 7, 3), (156, .iconst 1, 1), (157, .goto 4, 3), (160, .iconst 0, 1), (161, .istore 8, 2), (163, .iinc 3 1, 3), (166, .iload 8, 2), (168, .ifCond .eq 10, 3), (171, .iload 4, 2), (173, .iconst 1, 1), (174, .iadd, 1), (175, .goto 5, 3), (178, .iload 4, 2), (180, .istore 4, 2), (182, .iload 8, 2), (184, .ifCond .ne 36, 3), (187, .aload_n 0, 1), (188, .getfield 35, 3), (191, .aload_n 0, 1), (192, .getfield 32, 3), (195, .iload 6, 2), (197, .iload_n 1, 1), (198, .if_icmp .eq 9, 3), (201, .iload 6, 2), (203, .iload_n 2, 1), (204, .if_icmp .ne 8, 3), (207, .iload 7, 2), (209, .goto 5, 3), (212, .iload 6, 2), (214, .iaload, 1), (215, .dup2, 1), (216, .iaload, 1), (217, .iconst 1, 1), (218, .iadd, 1), (219, .iastore, 1), (220, .iinc 5 1, 3), (223, .goto (-134), 3), (226, .iload 4, 2), (228, .iconst 1, 1), (229, .if_icmp .le 12, 3), (232, .iload_n 3, 1), (233, .iconst 3, 1), (234, .if_icmp .le 7, 3), (237, .iconst 1, 1), (238, .goto 4, 3), (241, .iconst 0, 1), (242, .istore 5, 2), (244, .iconst 0, 1), (245, .istore 6, 2), (247, .iload 6, 2), (249, .bipush 40, 2), (251, .if_icmp .ge 45, 3), (254, .iload 5, 2), (256, .ifCond .ne 27, 3), (259, .aload_n 0, 1), (260, .getfield 35, 3), (263, .iload 6, 2), (265, .iaload, 1), (266, .iconst 1, 1), (267, .if_icmp .le 20, 3), (270, .iload_n 3, 1), (271, .aload_n 0, 1), (272, .getfield 35, 3), (275, .iload 6, 2), (277, .iaload, 1), (278, .isub, 1), (279, .iconst 1, 1), (280, .if_icmp .le 7, 3), (283, .iconst 1, 1), (284, .goto 4, 3), (287, .iconst 0, 1), (288, .istore 5, 2), (290, .iinc 6 1, 3), (293, .goto (-46), 3), (296, .iload 5, 2), (298, .ireturn, 1)]
set_option maxRecDepth 100000 in
theorem d_Model_isPair : sk_T c_Model_isPair t_Model_isPair := by unfold sk_T t_Model_isPair; decide +kernel
def w_Model_isPair (cI cJ cZ : ClassId) (a_t a_ends a_there a_one a_two a_what a_piece a_kinds a_group a_many a_pieceOf a_numberOf a_ups a_jointUp a_partner a_beyonds a_gone : Nat) (thrown : Int32) (made : Int32) (ends : Nat → Int32) (there : Nat → Int32) (tree : Int32) (items : Int32) (pieces : Int32) (joints : Int32) (group : Nat → Int32) (many : Nat → Int32) (nodes : Int32) : va_W := [(a_t, .inr (5, [.int thrown, .int made, .ref a_ends, .ref a_there, .int tree, .int items, .ref a_one, .ref a_two, .ref a_what, .ref a_piece, .int pieces, .int joints, .ref a_kinds, .ref a_group, .ref a_many, .int nodes, .ref a_pieceOf, .ref a_numberOf, .ref a_ups, .ref a_jointUp, .ref a_partner, .ref a_beyonds, .ref a_gone])), (a_ends, .inl (cI, 200, .inl ends)), (a_there, .inl (cZ, 100, .inl there)), (a_group, .inl (cI, 40, .inl group)), (a_many, .inl (cI, 40, .inl many))]
def wp_Model_isPair  (thrown : Int32) (made : Int32) (ends : Nat → Int32) (there : Nat → Int32) (tree : Int32) (group : Nat → Int32) (many : Nat → Int32) (x1 : Int32) (x2 : Int32) (post : Int32 → Int32 → (Nat → Int32) → (Nat → Int32) → Prop) : Prop :=
  jn1 (fun (z_1 : Int32) => jn1 (fun (z_4 : Int32) => wp_Model_refused thrown z_1 z_4 (fun r_10 thrown_9 => (r_10 = 0 → (¬ x1 = x2 → ∃ n, sL2 (fun (K_13 : Int32 → (Nat → Int32) → Prop) (i3_11 : Int32) (many_12 : Nat → Int32) => (40 ≤ i3_11 → wp_Model_join made ends there group x1 x2 (fun group_16 => ∃ n, sL4 (fun (K_21 : Int32 → Int32 → Int32 → (Nat → Int32) → Prop) (i3_17 : Int32) (i4_18 : Int32) (i5_19 : Int32) (many_20 : Nat → Int32) => (made ≤ i5_19 → jn1 (fun (z_24 : Int32) => ∃ n, sL2 (fun (K_29 : Int32 → Int32 → Prop) (i5_27 : Int32) (i6_28 : Int32) => (40 ≤ i6_28 → sk_b i5_27 ∧ post i5_27 thrown_9 group_16 many_20) ∧ (¬ 40 ≤ i6_28 → (¬ i5_27 = 0 → K_29 1 (i6_28 + 1)) ∧ (i5_27 = 0 → vp_in i6_28 40 ∧ ((many_20 (ix i6_28)) ≤ 1 → K_29 0 (i6_28 + 1)) ∧ (¬ (many_20 (ix i6_28)) ≤ 1 → vp_in i6_28 40 ∧ ((i3_17 - (many_20 (ix i6_28))) ≤ 1 → K_29 0 (i6_28 + 1)) ∧ (¬ (i3_17 - (many_20 (ix i6_28))) ≤ 1 → K_29 1 (i6_28 + 1)))))) n z_24 0) (fun (J_25 : Int32 → Prop) => (i4_18 ≤ 1 → J_25 0) ∧ (¬ i4_18 ≤ 1 → (i3_17 ≤ 3 → J_25 0) ∧ (¬ i3_17 ≤ 3 → J_25 1)))) ∧ (¬ made ≤ i5_19 → vp_in i5_19 100 ∧ ((there (ix i5_19)) = 0 → K_21 i3_17 i4_18 (i5_19 + 1) many_20) ∧ (¬ (there (ix i5_19)) = 0 → vp_in (2 * i5_19) 200 ∧ vp_in ((2 * i5_19) + 1) 200 ∧ jn1 (fun (z_32 : Int32) => jn1 (fun (z_35 : Int32) => (¬ z_32 = 0 → K_21 (i3_17 + 1) z_35 (i5_19 + 1) many_20) ∧ (z_32 = 0 → jn1 (fun (z_38 : Int32) => vp_in z_38 40 ∧ vp_in (group_16 (ix z_38)) 40 ∧ ∀ x_41 : Int32, x_41 = many_20 (ix (group_16 (ix z_38))) → vp_in (group_16 (ix z_38)) 40 ∧ ∀ many_43 : Nat → Int32, many_43 = upd many_20 (ix (group_16 (ix z_38))) (x_41 + 1) → K_21 (i3_17 + 1) z_35 (i5_19 + 1) many_43) (fun (J_39 : Int32 → Prop) => ((ends (ix (2 * i5_19))) = x1 → J_39 (ends (ix ((2 * i5_19) + 1)))) ∧ (¬ (ends (ix (2 * i5_19))) = x1 → (¬ (ends (ix (2 * i5_19))) = x2 → J_39 (ends (ix (2 * i5_19)))) ∧ ((ends (ix (2 * i5_19))) = x2 → J_39 (ends (ix ((2 * i5_19) + 1)))))))) (fun (J_36 : Int32 → Prop) => (z_32 = 0 → J_36 i4_18) ∧ (¬ z_32 = 0 → J_36 (i4_18 + 1)))) (fun (J_33 : Int32 → Prop) => ((ends (ix (2 * i5_19))) = x1 → ((ends (ix ((2 * i5_19) + 1))) = x1 → J_33 1) ∧ (¬ (ends (ix ((2 * i5_19) + 1))) = x1 → (¬ (ends (ix ((2 * i5_19) + 1))) = x2 → J_33 0) ∧ ((ends (ix ((2 * i5_19) + 1))) = x2 → J_33 1))) ∧ (¬ (ends (ix (2 * i5_19))) = x1 → (¬ (ends (ix (2 * i5_19))) = x2 → J_33 0) ∧ ((ends (ix (2 * i5_19))) = x2 → ((ends (ix ((2 * i5_19) + 1))) = x1 → J_33 1) ∧ (¬ (ends (ix ((2 * i5_19) + 1))) = x1 → (¬ (ends (ix ((2 * i5_19) + 1))) = x2 → J_33 0) ∧ ((ends (ix ((2 * i5_19) + 1))) = x2 → J_33 1)))))))) n 0 0 0 many_12)) ∧ (¬ 40 ≤ i3_11 → vp_in i3_11 40 ∧ ∀ many_45 : Nat → Int32, many_45 = upd many_12 (ix i3_11) 0 → K_13 (i3_11 + 1) many_45)) n 0 many) ∧ (x1 = x2 → post 0 thrown_9 group many)) ∧ (¬ r_10 = 0 → post 0 thrown_9 group many))) (fun (J_5 : Int32 → Prop) => (tree = 0 → J_5 0) ∧ (¬ tree = 0 → wp_Model_isPoint x1 (fun r_7 => (r_7 = 0 → J_5 1) ∧ (¬ r_7 = 0 → wp_Model_isPoint x2 (fun r_8 => (¬ r_8 = 0 → J_5 0) ∧ (r_8 = 0 → J_5 1))))))) (fun (J_2 : Int32 → Prop) => (¬ tree = 0 → J_2 0) ∧ (tree = 0 → J_2 1))
set_option maxHeartbeats 4000000 in
set_option maxRecDepth 100000 in
theorem bd_Model_isPair {p : Program} {l : Launch} {e : Env} {R : Room} {s : State} {m : MethodId} {args : Array Value} {below : List Frame} {meth : Method} {c : Code} {D : va_G} {A B : Nat → Prop} {Q : State → Prop} {cI cJ cZ : ClassId} {a_t a_ends a_there a_one a_two a_what a_piece a_kinds a_group a_many a_pieceOf a_numberOf a_ups a_jointUp a_partner a_beyonds a_gone : Nat} {thrown : Int32} {made : Int32} {ends : Nat → Int32} {there : Nat → Int32} {tree : Int32} {items : Int32} {pieces : Int32} {joints : Int32} {group : Nat → Int32} {many : Nat → Int32} {nodes : Int32} {x1 : Int32} {x2 : Int32} (K : sk_C p s m args meth c c_Model_isPair 9 "SkeletonTreeModel" D (tyl cI cJ cZ)) (hR1 : 2 ≤ R.frames) (hR2 : 50 ≤ R.locals) (hBA : ∀ q : Nat, B q → A q) {post : Int32 → Int32 → (Nat → Int32) → (Nat → Int32) → Prop} (hend : ∀ (ti pc : Nat) (r : Int32) (y0 : Int32) (y1 : Nat → Int32) (y2 : Nat → Int32) (lv : List (Nat × Value)), t_Model_isPair[ti]? = some (pc, .ireturn, 1) → sk_b r → post r y0 y1 y2 → AW p l e R s m args below meth c D A B 9 Q 0 0 (w_Model_isPair cI cJ cZ a_t a_ends a_there a_one a_two a_what a_piece a_kinds a_group a_many a_pieceOf a_numberOf a_ups a_jointUp a_partner a_beyonds a_gone y0 made ends there tree items pieces joints y1 y2 nodes) lv pc [.int r]) (h : wp_Model_isPair thrown made ends there tree group many x1 x2 post) : AW p l e R s m args below meth c D A B 9 Q 0 0 (w_Model_isPair cI cJ cZ a_t a_ends a_there a_one a_two a_what a_piece a_kinds a_group a_many a_pieceOf a_numberOf a_ups a_jointUp a_partner a_beyonds a_gone thrown made ends there tree items pieces joints group many nodes) [(0, .ref a_t), (1, .int x1), (2, .int x2)] 0 [] := by
  unfold wp_Model_isPair at h
  refine A_aload_n K d_Model_isPair 0 0 (pc' := 1) rfl rfl rfl rfl ?_
  refine A_aload_n K d_Model_isPair 1 0 (pc' := 2) rfl rfl rfl rfl ?_
  refine A_get K d_Model_isPair 2 0 fl_Model_74 (pc' := 5) rfl rfl rfl rfl ?_
  refine jn1_use (fun (z_1 : Int32) => AW p l e R s m args below meth c D A B 9 Q 0 0 (w_Model_isPair cI cJ cZ a_t a_ends a_there a_one a_two a_what a_piece a_kinds a_group a_many a_pieceOf a_numberOf a_ups a_jointUp a_partner a_beyonds a_gone thrown made ends there tree items pieces joints group many nodes) [(0, .ref a_t), (1, .int x1), (2, .int x2)] 13 [.int z_1, .ref a_t]) h ?_ ?_
  · intro z_1 h
    refine A_aload_n K d_Model_isPair 7 0 (pc' := 14) rfl rfl rfl rfl ?_
    refine A_get K d_Model_isPair 8 0 fl_Model_74 (pc' := 17) rfl rfl rfl rfl ?_
    refine jn1_use (fun (z_4 : Int32) => AW p l e R s m args below meth c D A B 9 Q 0 0 (w_Model_isPair cI cJ cZ a_t a_ends a_there a_one a_two a_what a_piece a_kinds a_group a_many a_pieceOf a_numberOf a_ups a_jointUp a_partner a_beyonds a_gone thrown made ends there tree items pieces joints group many nodes) [(0, .ref a_t), (1, .int x1), (2, .int x2)] 39 [.int z_4, .int z_1, .ref a_t]) h ?_ ?_
    · intro z_4 h
      refine C_Vi1 K hBA d_Model_isPair 19 [0] [some 0, none, none, none, none] (As := [.int z_1, .int z_4]) (rest := []) (pc' := 42) (wl := fun thrown_9 => w_Model_refused cI cJ cZ a_t a_ends a_there a_one a_two a_what a_piece a_kinds a_group a_many a_pieceOf a_numberOf a_ups a_jointUp a_partner a_beyonds a_gone thrown_9 made tree items pieces joints nodes) (ws' := fun thrown_9 => w_Model_isPair cI cJ cZ a_t a_ends a_there a_one a_two a_what a_piece a_kinds a_group a_many a_pieceOf a_numberOf a_ups a_jointUp a_partner a_beyonds a_gone thrown_9 made ends there tree items pieces joints group many nodes) v_Model_70 ⟨rfl, rfl, Nat.le_trans (Nat.le_of_ble_eq_true rfl) hR1, Nat.le_trans (Nat.le_of_ble_eq_true rfl) hR2⟩ (fun sz => met_Model_refused l D cI cJ cZ a_t a_ends a_there a_one a_two a_what a_piece a_kinds a_group a_many a_pieceOf a_numberOf a_ups a_jointUp a_partner a_beyonds a_gone thrown made tree items pieces joints nodes z_1 z_4 _ sz) h rfl rfl rfl rfl rfl (fun _ => rfl) rfl (by decide) (Nat.le_of_ble_eq_true rfl) ⟨Nat.zero_le _, Nat.zero_le _⟩ (q0 := 0) rfl rfl (fun _ => rfl) (fun r_10 thrown_9 h => ?_)
      refine A_if_eq K d_Model_isPair 20 47 (pc' := 45) rfl rfl rfl (fun q => ?_) (fun q => ?_)
      · replace h := h.1 q
        refine A_iload_n K d_Model_isPair 23 1 (pc' := 48) rfl rfl rfl rfl ?_
        refine A_iload_n K d_Model_isPair 24 2 (pc' := 49) rfl rfl rfl rfl ?_
        refine A_icmp_ne K d_Model_isPair 25 54 (pc' := 52) rfl rfl rfl (fun q => ?_) (fun q => ?_)
        · replace h := h.1 q
          refine A_iconst K d_Model_isPair 28 (pc' := 55) (v := 0) rfl rfl (by decide) ?_
          refine A_istore_n K d_Model_isPair 29 (pc' := 56) (lv' := [(3, .int 0), (0, .ref a_t), (1, .int x1), (2, .int x2)]) rfl rfl rfl (by decide) rfl ?_
          refine A_lv [1, 2, 3, 0] rfl ?_
          obtain ⟨n_15, h⟩ := h
          refine sL2_ind (fun (i3_11 : Int32) (many_12 : Nat → Int32) => AW p l e R s m args below meth c D A B 9 Q 0 0 (w_Model_isPair cI cJ cZ a_t a_ends a_there a_one a_two a_what a_piece a_kinds a_group a_many a_pieceOf a_numberOf a_ups a_jointUp a_partner a_beyonds a_gone thrown_9 made ends there tree items pieces joints group many_12 nodes) [(0, .ref a_t), (1, .int x1), (2, .int x2), (3, .int i3_11)] 56 []) ?_ n_15 _ _ h
          intro K_13 ih_14 i3_11 many_12 h
          refine A_iload_n K d_Model_isPair 30 3 (pc' := 57) rfl rfl rfl rfl ?_
          refine A_bipush K d_Model_isPair 31 (pc' := 59) (v := 40) rfl rfl (by decide) ?_
          refine A_icmp_ge K d_Model_isPair 32 75 (pc' := 62) rfl rfl rfl (fun q => ?_) (fun q => ?_)
          · replace h := h.1 q
            refine A_aload_n K d_Model_isPair 40 0 (pc' := 76) rfl rfl rfl rfl ?_
            refine A_iload_n K d_Model_isPair 41 1 (pc' := 77) rfl rfl rfl rfl ?_
            refine A_iload_n K d_Model_isPair 42 2 (pc' := 78) rfl rfl rfl rfl ?_
            refine C_Vv1 K hBA d_Model_isPair 43 [0, 1, 2, 3] [some 0, some 1, some 2, some 3, none] (As := [.int x1, .int x2]) (rest := []) (pc' := 81) (wl := fun group_16 => w_Model_join cI cJ cZ a_t a_ends a_there a_one a_two a_what a_piece a_kinds a_group a_many a_pieceOf a_numberOf a_ups a_jointUp a_partner a_beyonds a_gone thrown_9 made ends there tree items pieces joints group_16 nodes) (ws' := fun group_16 => w_Model_isPair cI cJ cZ a_t a_ends a_there a_one a_two a_what a_piece a_kinds a_group a_many a_pieceOf a_numberOf a_ups a_jointUp a_partner a_beyonds a_gone thrown_9 made ends there tree items pieces joints group_16 many_12 nodes) v_Model_85 ⟨rfl, rfl, Nat.le_trans (Nat.le_of_ble_eq_true rfl) hR1, Nat.le_trans (Nat.le_of_ble_eq_true rfl) hR2⟩ (fun sz => met_Model_join l D cI cJ cZ a_t a_ends a_there a_one a_two a_what a_piece a_kinds a_group a_many a_pieceOf a_numberOf a_ups a_jointUp a_partner a_beyonds a_gone thrown_9 made ends there tree items pieces joints group nodes x1 x2 _ sz) h rfl rfl rfl rfl rfl (fun _ => rfl) rfl (by decide) (Nat.le_of_ble_eq_true rfl) ⟨Nat.zero_le _, Nat.zero_le _⟩ (q0 := 0) rfl rfl (fun _ => rfl) (fun group_16 h => ?_)
            refine A_iconst K d_Model_isPair 44 (pc' := 82) (v := 0) rfl rfl (by decide) ?_
            refine A_istore_n K d_Model_isPair 45 (pc' := 83) (lv' := [(3, .int 0), (0, .ref a_t), (1, .int x1), (2, .int x2)]) rfl rfl rfl (by decide) rfl ?_
            refine A_iconst K d_Model_isPair 46 (pc' := 84) (v := 0) rfl rfl (by decide) ?_
            refine A_istore K d_Model_isPair 47 (pc' := 86) (lv' := [(4, .int 0), (3, .int 0), (0, .ref a_t), (1, .int x1), (2, .int x2)]) rfl rfl (by decide) rfl ?_
            refine A_iconst K d_Model_isPair 48 (pc' := 87) (v := 0) rfl rfl (by decide) ?_
            refine A_istore K d_Model_isPair 49 (pc' := 89) (lv' := [(5, .int 0), (4, .int 0), (3, .int 0), (0, .ref a_t), (1, .int x1), (2, .int x2)]) rfl rfl (by decide) rfl ?_
            refine A_lv [3, 4, 5, 2, 1, 0] rfl ?_
            obtain ⟨n_23, h⟩ := h
            refine sL4_ind (fun (i3_17 : Int32) (i4_18 : Int32) (i5_19 : Int32) (many_20 : Nat → Int32) => AW p l e R s m args below meth c D A B 9 Q 0 0 (w_Model_isPair cI cJ cZ a_t a_ends a_there a_one a_two a_what a_piece a_kinds a_group a_many a_pieceOf a_numberOf a_ups a_jointUp a_partner a_beyonds a_gone thrown_9 made ends there tree items pieces joints group_16 many_20 nodes) [(0, .ref a_t), (1, .int x1), (2, .int x2), (3, .int i3_17), (4, .int i4_18), (5, .int i5_19)] 89 []) ?_ n_23 _ _ _ _ h
            intro K_21 ih_22 i3_17 i4_18 i5_19 many_20 h
            refine A_iload K d_Model_isPair 50 5 (pc' := 91) rfl rfl rfl ?_
            refine A_aload_n K d_Model_isPair 51 0 (pc' := 92) rfl rfl rfl rfl ?_
            refine A_get K d_Model_isPair 52 0 fl_Model_59 (pc' := 95) rfl rfl rfl rfl ?_
            refine A_icmp_ge K d_Model_isPair 53 226 (pc' := 98) rfl rfl rfl (fun q => ?_) (fun q => ?_)
            · replace h := h.1 q
              refine A_iload K d_Model_isPair 123 4 (pc' := 228) rfl rfl rfl ?_
              refine A_iconst K d_Model_isPair 124 (pc' := 229) (v := 1) rfl rfl (by decide) ?_
              refine jn1_use (fun (z_24 : Int32) => AW p l e R s m args below meth c D A B 9 Q 0 0 (w_Model_isPair cI cJ cZ a_t a_ends a_there a_one a_two a_what a_piece a_kinds a_group a_many a_pieceOf a_numberOf a_ups a_jointUp a_partner a_beyonds a_gone thrown_9 made ends there tree items pieces joints group_16 many_20 nodes) [(0, .ref a_t), (3, .int i3_17)] 242 [.int z_24]) h ?_ ?_
              · intro z_24 h
                refine A_istore K d_Model_isPair 132 (pc' := 244) (lv' := [(5, .int z_24), (0, .ref a_t), (3, .int i3_17)]) rfl rfl (by decide) rfl ?_
                refine A_iconst K d_Model_isPair 133 (pc' := 245) (v := 0) rfl rfl (by decide) ?_
                refine A_istore K d_Model_isPair 134 (pc' := 247) (lv' := [(6, .int 0), (5, .int z_24), (0, .ref a_t), (3, .int i3_17)]) rfl rfl (by decide) rfl ?_
                refine A_lv [2, 3, 1, 0] rfl ?_
                obtain ⟨n_31, h⟩ := h
                refine sL2_ind (fun (i5_27 : Int32) (i6_28 : Int32) => AW p l e R s m args below meth c D A B 9 Q 0 0 (w_Model_isPair cI cJ cZ a_t a_ends a_there a_one a_two a_what a_piece a_kinds a_group a_many a_pieceOf a_numberOf a_ups a_jointUp a_partner a_beyonds a_gone thrown_9 made ends there tree items pieces joints group_16 many_20 nodes) [(0, .ref a_t), (3, .int i3_17), (5, .int i5_27), (6, .int i6_28)] 247 []) ?_ n_31 _ _ h
                intro K_29 ih_30 i5_27 i6_28 h
                refine A_iload K d_Model_isPair 135 3 (pc' := 249) rfl rfl rfl ?_
                refine A_bipush K d_Model_isPair 136 (pc' := 251) (v := 40) rfl rfl (by decide) ?_
                refine A_icmp_ge K d_Model_isPair 137 296 (pc' := 254) rfl rfl rfl (fun q => ?_) (fun q => ?_)
                · replace h := h.1 q
                  refine A_iload K d_Model_isPair 160 2 (pc' := 298) rfl rfl rfl ?_
                  exact hend 161 _ _ _ _ _ _ rfl h.1 h.2
                · replace h := h.2 q
                  refine A_iload K d_Model_isPair 138 2 (pc' := 256) rfl rfl rfl ?_
                  refine A_if_ne K d_Model_isPair 139 283 (pc' := 259) rfl rfl rfl (fun q => ?_) (fun q => ?_)
                  · replace h := h.1 q
                    refine A_iconst K d_Model_isPair 154 (pc' := 284) (v := 1) rfl rfl (by decide) ?_
                    refine A_goto K d_Model_isPair 155 (pc' := 288) rfl rfl ?_
                    refine A_istore K d_Model_isPair 157 (pc' := 290) (lv' := [(5, .int 1), (0, .ref a_t), (3, .int i3_17), (6, .int i6_28)]) rfl rfl (by decide) rfl ?_
                    refine A_iinc K d_Model_isPair 158 3 (pc' := 293) (v := i6_28 + 1) (lv' := [(6, .int (i6_28 + 1)), (5, .int 1), (0, .ref a_t), (3, .int i3_17)]) rfl rfl rfl rfl (by decide) rfl ?_
                    refine A_goto K d_Model_isPair 159 (pc' := 247) rfl rfl ?_
                    refine A_lv [2, 3, 1, 0] rfl ?_
                    exact ih_30 _ _ h
                  · replace h := h.2 q
                    refine A_aload_n K d_Model_isPair 140 0 (pc' := 260) rfl rfl rfl rfl ?_
                    refine A_get K d_Model_isPair 141 0 fl_Model_35 (pc' := 263) rfl rfl rfl rfl ?_
                    refine A_iload K d_Model_isPair 142 3 (pc' := 265) rfl rfl rfl ?_
                    refine A_iald K d_Model_isPair 143 4 0 (pc' := 266) rfl rfl rfl rfl h.1 ?_
                    replace h := h.2
                    refine A_iconst K d_Model_isPair 144 (pc' := 267) (v := 1) rfl rfl (by decide) ?_
                    refine A_icmp_le K d_Model_isPair 145 287 (pc' := 270) rfl rfl rfl (fun q => ?_) (fun q => ?_)
                    · replace h := h.1 q
                      refine A_iconst K d_Model_isPair 156 (pc' := 288) (v := 0) rfl rfl (by decide) ?_
                      refine A_istore K d_Model_isPair 157 (pc' := 290) (lv' := [(5, .int 0), (0, .ref a_t), (3, .int i3_17), (6, .int i6_28)]) rfl rfl (by decide) rfl ?_
                      refine A_iinc K d_Model_isPair 158 3 (pc' := 293) (v := i6_28 + 1) (lv' := [(6, .int (i6_28 + 1)), (5, .int 0), (0, .ref a_t), (3, .int i3_17)]) rfl rfl rfl rfl (by decide) rfl ?_
                      refine A_goto K d_Model_isPair 159 (pc' := 247) rfl rfl ?_
                      refine A_lv [2, 3, 1, 0] rfl ?_
                      exact ih_30 _ _ h
                    · replace h := h.2 q
                      refine A_iload_n K d_Model_isPair 146 1 (pc' := 271) rfl rfl rfl rfl ?_
                      refine A_aload_n K d_Model_isPair 147 0 (pc' := 272) rfl rfl rfl rfl ?_
                      refine A_get K d_Model_isPair 148 0 fl_Model_35 (pc' := 275) rfl rfl rfl rfl ?_
                      refine A_iload K d_Model_isPair 149 3 (pc' := 277) rfl rfl rfl ?_
                      refine A_iald K d_Model_isPair 150 4 0 (pc' := 278) rfl rfl rfl rfl h.1 ?_
                      replace h := h.2
                      refine A_isub K d_Model_isPair 151 (pc' := 279) rfl rfl ?_
                      refine A_iconst K d_Model_isPair 152 (pc' := 280) (v := 1) rfl rfl (by decide) ?_
                      refine A_icmp_le K d_Model_isPair 153 287 (pc' := 283) rfl rfl rfl (fun q => ?_) (fun q => ?_)
                      · replace h := h.1 q
                        refine A_iconst K d_Model_isPair 156 (pc' := 288) (v := 0) rfl rfl (by decide) ?_
                        refine A_istore K d_Model_isPair 157 (pc' := 290) (lv' := [(5, .int 0), (0, .ref a_t), (3, .int i3_17), (6, .int i6_28)]) rfl rfl (by decide) rfl ?_
                        refine A_iinc K d_Model_isPair 158 3 (pc' := 293) (v := i6_28 + 1) (lv' := [(6, .int (i6_28 + 1)), (5, .int 0), (0, .ref a_t), (3, .int i3_17)]) rfl rfl rfl rfl (by decide) rfl ?_
                        refine A_goto K d_Model_isPair 159 (pc' := 247) rfl rfl ?_
                        refine A_lv [2, 3, 1, 0] rfl ?_
                        exact ih_30 _ _ h
                      · replace h := h.2 q
                        refine A_iconst K d_Model_isPair 154 (pc' := 284) (v := 1) rfl rfl (by decide) ?_
                        refine A_goto K d_Model_isPair 155 (pc' := 288) rfl rfl ?_
                        refine A_istore K d_Model_isPair 157 (pc' := 290) (lv' := [(5, .int 1), (0, .ref a_t), (3, .int i3_17), (6, .int i6_28)]) rfl rfl (by decide) rfl ?_
                        refine A_iinc K d_Model_isPair 158 3 (pc' := 293) (v := i6_28 + 1) (lv' := [(6, .int (i6_28 + 1)), (5, .int 1), (0, .ref a_t), (3, .int i3_17)]) rfl rfl rfl rfl (by decide) rfl ?_
                        refine A_goto K d_Model_isPair 159 (pc' := 247) rfl rfl ?_
                        refine A_lv [2, 3, 1, 0] rfl ?_
                        exact ih_30 _ _ h
              · intro J_25 hJ_26 h
                refine A_icmp_le K d_Model_isPair 125 241 (pc' := 232) rfl rfl rfl (fun q => ?_) (fun q => ?_)
                · replace h := h.1 q
                  refine A_iconst K d_Model_isPair 131 (pc' := 242) (v := 0) rfl rfl (by decide) ?_
                  refine A_lv [0, 3] rfl ?_
                  exact hJ_26 _ h
                · replace h := h.2 q
                  refine A_iload_n K d_Model_isPair 126 3 (pc' := 233) rfl rfl rfl rfl ?_
                  refine A_iconst K d_Model_isPair 127 (pc' := 234) (v := 3) rfl rfl (by decide) ?_
                  refine A_icmp_le K d_Model_isPair 128 241 (pc' := 237) rfl rfl rfl (fun q => ?_) (fun q => ?_)
                  · replace h := h.1 q
                    refine A_iconst K d_Model_isPair 131 (pc' := 242) (v := 0) rfl rfl (by decide) ?_
                    refine A_lv [0, 3] rfl ?_
                    exact hJ_26 _ h
                  · replace h := h.2 q
                    refine A_iconst K d_Model_isPair 129 (pc' := 238) (v := 1) rfl rfl (by decide) ?_
                    refine A_goto K d_Model_isPair 130 (pc' := 242) rfl rfl ?_
                    refine A_lv [0, 3] rfl ?_
                    exact hJ_26 _ h
            · replace h := h.2 q
              refine A_aload_n K d_Model_isPair 54 0 (pc' := 99) rfl rfl rfl rfl ?_
              refine A_get K d_Model_isPair 55 0 fl_Model_13 (pc' := 102) rfl rfl rfl rfl ?_
              refine A_iload K d_Model_isPair 56 5 (pc' := 104) rfl rfl rfl ?_
              refine A_zald K d_Model_isPair 57 2 2 (pc' := 105) rfl rfl rfl rfl h.1 ?_
              replace h := h.2
              refine A_if_eq K d_Model_isPair 58 220 (pc' := 108) rfl rfl rfl (fun q => ?_) (fun q => ?_)
              · replace h := h.1 q
                refine A_iinc K d_Model_isPair 121 5 (pc' := 223) (v := i5_19 + 1) (lv' := [(5, .int (i5_19 + 1)), (0, .ref a_t), (1, .int x1), (2, .int x2), (3, .int i3_17), (4, .int i4_18)]) rfl rfl rfl rfl (by decide) rfl ?_
                refine A_goto K d_Model_isPair 122 (pc' := 89) rfl rfl ?_
                refine A_lv [1, 2, 3, 4, 5, 0] rfl ?_
                exact ih_22 _ _ _ _ h
              · replace h := h.2 q
                refine A_aload_n K d_Model_isPair 59 0 (pc' := 109) rfl rfl rfl rfl ?_
                refine A_get K d_Model_isPair 60 0 fl_Model_7 (pc' := 112) rfl rfl rfl rfl ?_
                refine A_iconst K d_Model_isPair 61 (pc' := 113) (v := 2) rfl rfl (by decide) ?_
                refine A_iload K d_Model_isPair 62 5 (pc' := 115) rfl rfl rfl ?_
                refine A_imul K d_Model_isPair 63 (pc' := 116) rfl rfl ?_
                refine A_iald K d_Model_isPair 64 1 0 (pc' := 117) rfl rfl rfl rfl h.1 ?_
                replace h := h.2
                refine A_istore K d_Model_isPair 65 (pc' := 119) (lv' := [(6, .int (ends (ix (2 * i5_19)))), (0, .ref a_t), (1, .int x1), (2, .int x2), (3, .int i3_17), (4, .int i4_18), (5, .int i5_19)]) rfl rfl (by decide) rfl ?_
                refine A_aload_n K d_Model_isPair 66 1 (pc' := 120) rfl rfl rfl rfl ?_
                refine A_get K d_Model_isPair 67 0 fl_Model_7 (pc' := 123) rfl rfl rfl rfl ?_
                refine A_iconst K d_Model_isPair 68 (pc' := 124) (v := 2) rfl rfl (by decide) ?_
                refine A_iload K d_Model_isPair 69 6 (pc' := 126) rfl rfl rfl ?_
                refine A_imul K d_Model_isPair 70 (pc' := 127) rfl rfl ?_
                refine A_iconst K d_Model_isPair 71 (pc' := 128) (v := 1) rfl rfl (by decide) ?_
                refine A_iadd K d_Model_isPair 72 (pc' := 129) rfl rfl ?_
                refine A_iald K d_Model_isPair 73 1 0 (pc' := 130) rfl rfl rfl rfl h.1 ?_
                replace h := h.2
                refine A_istore K d_Model_isPair 74 (pc' := 132) (lv' := [(7, .int (ends (ix ((2 * i5_19) + 1)))), (6, .int (ends (ix (2 * i5_19)))), (0, .ref a_t), (1, .int x1), (2, .int x2), (3, .int i3_17), (4, .int i4_18), (5, .int i5_19)]) rfl rfl (by decide) rfl ?_
                refine A_iload K d_Model_isPair 75 1 (pc' := 134) rfl rfl rfl ?_
                refine A_iload_n K d_Model_isPair 76 3 (pc' := 135) rfl rfl rfl rfl ?_
                refine jn1_use (fun (z_32 : Int32) => AW p l e R s m args below meth c D A B 9 Q 0 0 (w_Model_isPair cI cJ cZ a_t a_ends a_there a_one a_two a_what a_piece a_kinds a_group a_many a_pieceOf a_numberOf a_ups a_jointUp a_partner a_beyonds a_gone thrown_9 made ends there tree items pieces joints group_16 many_20 nodes) [(0, .ref a_t), (1, .int x1), (2, .int x2), (3, .int i3_17), (4, .int i4_18), (5, .int i5_19), (6, .int (ends (ix (2 * i5_19)))), (7, .int (ends (ix ((2 * i5_19) + 1))))] 161 [.int z_32]) h ?_ ?_
                · intro z_32 h
                  refine A_istore K d_Model_isPair 90 (pc' := 163) (lv' := [(8, .int z_32), (0, .ref a_t), (1, .int x1), (2, .int x2), (3, .int i3_17), (4, .int i4_18), (5, .int i5_19), (6, .int (ends (ix (2 * i5_19)))), (7, .int (ends (ix ((2 * i5_19) + 1))))]) rfl rfl (by decide) rfl ?_
                  refine A_iinc K d_Model_isPair 91 4 (pc' := 166) (v := i3_17 + 1) (lv' := [(3, .int (i3_17 + 1)), (8, .int z_32), (0, .ref a_t), (1, .int x1), (2, .int x2), (4, .int i4_18), (5, .int i5_19), (6, .int (ends (ix (2 * i5_19)))), (7, .int (ends (ix ((2 * i5_19) + 1))))]) rfl rfl rfl rfl (by decide) rfl ?_
                  refine A_iload K d_Model_isPair 92 1 (pc' := 168) rfl rfl rfl ?_
                  refine jn1_use (fun (z_35 : Int32) => AW p l e R s m args below meth c D A B 9 Q 0 0 (w_Model_isPair cI cJ cZ a_t a_ends a_there a_one a_two a_what a_piece a_kinds a_group a_many a_pieceOf a_numberOf a_ups a_jointUp a_partner a_beyonds a_gone thrown_9 made ends there tree items pieces joints group_16 many_20 nodes) [(0, .ref a_t), (1, .int x1), (2, .int x2), (3, .int (i3_17 + 1)), (5, .int i5_19), (6, .int (ends (ix (2 * i5_19)))), (7, .int (ends (ix ((2 * i5_19) + 1)))), (8, .int z_32)] 180 [.int z_35]) h ?_ ?_
                  · intro z_35 h
                    refine A_istore K d_Model_isPair 99 (pc' := 182) (lv' := [(4, .int z_35), (0, .ref a_t), (1, .int x1), (2, .int x2), (3, .int (i3_17 + 1)), (5, .int i5_19), (6, .int (ends (ix (2 * i5_19)))), (7, .int (ends (ix ((2 * i5_19) + 1)))), (8, .int z_32)]) rfl rfl (by decide) rfl ?_
                    refine A_iload K d_Model_isPair 100 8 (pc' := 184) rfl rfl rfl ?_
                    refine A_if_ne K d_Model_isPair 101 220 (pc' := 187) rfl rfl rfl (fun q => ?_) (fun q => ?_)
                    · replace h := h.1 q
                      refine A_iinc K d_Model_isPair 121 5 (pc' := 223) (v := i5_19 + 1) (lv' := [(5, .int (i5_19 + 1)), (4, .int z_35), (0, .ref a_t), (1, .int x1), (2, .int x2), (3, .int (i3_17 + 1)), (6, .int (ends (ix (2 * i5_19)))), (7, .int (ends (ix ((2 * i5_19) + 1)))), (8, .int z_32)]) rfl rfl rfl rfl (by decide) rfl ?_
                      refine A_goto K d_Model_isPair 122 (pc' := 89) rfl rfl ?_
                      refine A_lv [2, 3, 4, 5, 1, 0] rfl ?_
                      exact ih_22 _ _ _ _ h
                    · replace h := h.2 q
                      refine A_aload_n K d_Model_isPair 102 1 (pc' := 188) rfl rfl rfl rfl ?_
                      refine A_get K d_Model_isPair 103 0 fl_Model_35 (pc' := 191) rfl rfl rfl rfl ?_
                      refine A_aload_n K d_Model_isPair 104 1 (pc' := 192) rfl rfl rfl rfl ?_
                      refine A_get K d_Model_isPair 105 0 fl_Model_32 (pc' := 195) rfl rfl rfl rfl ?_
                      refine A_iload K d_Model_isPair 106 6 (pc' := 197) rfl rfl rfl ?_
                      refine A_iload_n K d_Model_isPair 107 2 (pc' := 198) rfl rfl rfl rfl ?_
                      refine jn1_use (fun (z_38 : Int32) => AW p l e R s m args below meth c D A B 9 Q 0 0 (w_Model_isPair cI cJ cZ a_t a_ends a_there a_one a_two a_what a_piece a_kinds a_group a_many a_pieceOf a_numberOf a_ups a_jointUp a_partner a_beyonds a_gone thrown_9 made ends there tree items pieces joints group_16 many_20 nodes) [(0, .ref a_t), (1, .int x1), (2, .int x2), (3, .int (i3_17 + 1)), (4, .int z_35), (5, .int i5_19)] 214 [.int z_38, .ref a_group, .ref a_many]) h ?_ ?_
                      · intro z_38 h
                        refine A_iald K d_Model_isPair 115 3 0 (pc' := 215) rfl rfl rfl rfl h.1 ?_
                        replace h := h.2
                        refine A_dup2 K d_Model_isPair 116 (pc' := 216) rfl rfl rfl rfl ?_
                        refine A_iald K d_Model_isPair 117 4 0 (pc' := 217) rfl rfl rfl rfl h.1 ?_
                        replace h := h.2
                        refine A_topi (fun x_41 e_42 => ?_)
                        replace h := h x_41 e_42
                        refine A_iconst K d_Model_isPair 118 (pc' := 218) (v := 1) rfl rfl (by decide) ?_
                        refine A_iadd K d_Model_isPair 119 (pc' := 219) rfl rfl ?_
                        refine A_iastN K hBA d_Model_isPair 120 4 0 (pc' := 220) (ws' := fun many_43 => w_Model_isPair cI cJ cZ a_t a_ends a_there a_one a_two a_what a_piece a_kinds a_group a_many a_pieceOf a_numberOf a_ups a_jointUp a_partner a_beyonds a_gone thrown_9 made ends there tree items pieces joints group_16 many_43 nodes) rfl rfl rfl rfl h.1 (fun _ => rfl) (fun many_43 e_44 => ?_)
                        replace h := h.2 many_43 e_44
                        refine A_iinc K d_Model_isPair 121 5 (pc' := 223) (v := i5_19 + 1) (lv' := [(5, .int (i5_19 + 1)), (0, .ref a_t), (1, .int x1), (2, .int x2), (3, .int (i3_17 + 1)), (4, .int z_35)]) rfl rfl rfl rfl (by decide) rfl ?_
                        refine A_goto K d_Model_isPair 122 (pc' := 89) rfl rfl ?_
                        refine A_lv [1, 2, 3, 4, 5, 0] rfl ?_
                        exact ih_22 _ _ _ _ h
                      · intro J_39 hJ_40 h
                        refine A_icmp_eq K d_Model_isPair 108 207 (pc' := 201) rfl rfl rfl (fun q => ?_) (fun q => ?_)
                        · replace h := h.1 q
                          refine A_iload K d_Model_isPair 112 7 (pc' := 209) rfl rfl rfl ?_
                          refine A_goto K d_Model_isPair 113 (pc' := 214) rfl rfl ?_
                          refine A_lv [1, 2, 3, 4, 0, 5] rfl ?_
                          exact hJ_40 _ h
                        · replace h := h.2 q
                          refine A_iload K d_Model_isPair 109 6 (pc' := 203) rfl rfl rfl ?_
                          refine A_iload_n K d_Model_isPair 110 3 (pc' := 204) rfl rfl rfl rfl ?_
                          refine A_icmp_ne K d_Model_isPair 111 212 (pc' := 207) rfl rfl rfl (fun q => ?_) (fun q => ?_)
                          · replace h := h.1 q
                            refine A_iload K d_Model_isPair 114 6 (pc' := 214) rfl rfl rfl ?_
                            refine A_lv [1, 2, 3, 4, 0, 5] rfl ?_
                            exact hJ_40 _ h
                          · replace h := h.2 q
                            refine A_iload K d_Model_isPair 112 7 (pc' := 209) rfl rfl rfl ?_
                            refine A_goto K d_Model_isPair 113 (pc' := 214) rfl rfl ?_
                            refine A_lv [1, 2, 3, 4, 0, 5] rfl ?_
                            exact hJ_40 _ h
                  · intro J_36 hJ_37 h
                    refine A_if_eq K d_Model_isPair 93 178 (pc' := 171) rfl rfl rfl (fun q => ?_) (fun q => ?_)
                    · replace h := h.1 q
                      refine A_iload K d_Model_isPair 98 5 (pc' := 180) rfl rfl rfl ?_
                      refine A_lv [2, 3, 4, 0, 6, 7, 8, 1] rfl ?_
                      exact hJ_37 _ h
                    · replace h := h.2 q
                      refine A_iload K d_Model_isPair 94 5 (pc' := 173) rfl rfl rfl ?_
                      refine A_iconst K d_Model_isPair 95 (pc' := 174) (v := 1) rfl rfl (by decide) ?_
                      refine A_iadd K d_Model_isPair 96 (pc' := 175) rfl rfl ?_
                      refine A_goto K d_Model_isPair 97 (pc' := 180) rfl rfl ?_
                      refine A_lv [2, 3, 4, 0, 6, 7, 8, 1] rfl ?_
                      exact hJ_37 _ h
                · intro J_33 hJ_34 h
                  refine A_icmp_eq K d_Model_isPair 77 144 (pc' := 138) rfl rfl rfl (fun q => ?_) (fun q => ?_)
                  · replace h := h.1 q
                    refine A_iload K d_Model_isPair 81 0 (pc' := 146) rfl rfl rfl ?_
                    refine A_iload_n K d_Model_isPair 82 3 (pc' := 147) rfl rfl rfl rfl ?_
                    refine A_icmp_eq K d_Model_isPair 83 156 (pc' := 150) rfl rfl rfl (fun q => ?_) (fun q => ?_)
                    · replace h := h.1 q
                      refine A_iconst K d_Model_isPair 87 (pc' := 157) (v := 1) rfl rfl (by decide) ?_
                      refine A_goto K d_Model_isPair 88 (pc' := 161) rfl rfl ?_
                      refine A_lv [2, 3, 4, 5, 6, 7, 1, 0] rfl ?_
                      exact hJ_34 _ h
                    · replace h := h.2 q
                      refine A_iload K d_Model_isPair 84 0 (pc' := 152) rfl rfl rfl ?_
                      refine A_iload_n K d_Model_isPair 85 4 (pc' := 153) rfl rfl rfl rfl ?_
                      refine A_icmp_ne K d_Model_isPair 86 160 (pc' := 156) rfl rfl rfl (fun q => ?_) (fun q => ?_)
                      · replace h := h.1 q
                        refine A_iconst K d_Model_isPair 89 (pc' := 161) (v := 0) rfl rfl (by decide) ?_
                        refine A_lv [2, 3, 4, 5, 6, 7, 1, 0] rfl ?_
                        exact hJ_34 _ h
                      · replace h := h.2 q
                        refine A_iconst K d_Model_isPair 87 (pc' := 157) (v := 1) rfl rfl (by decide) ?_
                        refine A_goto K d_Model_isPair 88 (pc' := 161) rfl rfl ?_
                        refine A_lv [2, 3, 4, 5, 6, 7, 1, 0] rfl ?_
                        exact hJ_34 _ h
                  · replace h := h.2 q
                    refine A_iload K d_Model_isPair 78 1 (pc' := 140) rfl rfl rfl ?_
                    refine A_iload_n K d_Model_isPair 79 4 (pc' := 141) rfl rfl rfl rfl ?_
                    refine A_icmp_ne K d_Model_isPair 80 160 (pc' := 144) rfl rfl rfl (fun q => ?_) (fun q => ?_)
                    · replace h := h.1 q
                      refine A_iconst K d_Model_isPair 89 (pc' := 161) (v := 0) rfl rfl (by decide) ?_
                      refine A_lv [2, 3, 4, 5, 6, 7, 1, 0] rfl ?_
                      exact hJ_34 _ h
                    · replace h := h.2 q
                      refine A_iload K d_Model_isPair 81 0 (pc' := 146) rfl rfl rfl ?_
                      refine A_iload_n K d_Model_isPair 82 3 (pc' := 147) rfl rfl rfl rfl ?_
                      refine A_icmp_eq K d_Model_isPair 83 156 (pc' := 150) rfl rfl rfl (fun q => ?_) (fun q => ?_)
                      · replace h := h.1 q
                        refine A_iconst K d_Model_isPair 87 (pc' := 157) (v := 1) rfl rfl (by decide) ?_
                        refine A_goto K d_Model_isPair 88 (pc' := 161) rfl rfl ?_
                        refine A_lv [2, 3, 4, 5, 6, 7, 1, 0] rfl ?_
                        exact hJ_34 _ h
                      · replace h := h.2 q
                        refine A_iload K d_Model_isPair 84 0 (pc' := 152) rfl rfl rfl ?_
                        refine A_iload_n K d_Model_isPair 85 4 (pc' := 153) rfl rfl rfl rfl ?_
                        refine A_icmp_ne K d_Model_isPair 86 160 (pc' := 156) rfl rfl rfl (fun q => ?_) (fun q => ?_)
                        · replace h := h.1 q
                          refine A_iconst K d_Model_isPair 89 (pc' := 161) (v := 0) rfl rfl (by decide) ?_
                          refine A_lv [2, 3, 4, 5, 6, 7, 1, 0] rfl ?_
                          exact hJ_34 _ h
                        · replace h := h.2 q
                          refine A_iconst K d_Model_isPair 87 (pc' := 157) (v := 1) rfl rfl (by decide) ?_
                          refine A_goto K d_Model_isPair 88 (pc' := 161) rfl rfl ?_
                          refine A_lv [2, 3, 4, 5, 6, 7, 1, 0] rfl ?_
                          exact hJ_34 _ h
          · replace h := h.2 q
            refine A_aload_n K d_Model_isPair 33 0 (pc' := 63) rfl rfl rfl rfl ?_
            refine A_get K d_Model_isPair 34 0 fl_Model_35 (pc' := 66) rfl rfl rfl rfl ?_
            refine A_iload_n K d_Model_isPair 35 3 (pc' := 67) rfl rfl rfl rfl ?_
            refine A_iconst K d_Model_isPair 36 (pc' := 68) (v := 0) rfl rfl (by decide) ?_
            refine A_iastN K hBA d_Model_isPair 37 4 0 (pc' := 69) (ws' := fun many_45 => w_Model_isPair cI cJ cZ a_t a_ends a_there a_one a_two a_what a_piece a_kinds a_group a_many a_pieceOf a_numberOf a_ups a_jointUp a_partner a_beyonds a_gone thrown_9 made ends there tree items pieces joints group many_45 nodes) rfl rfl rfl rfl h.1 (fun _ => rfl) (fun many_45 e_46 => ?_)
            replace h := h.2 many_45 e_46
            refine A_iinc K d_Model_isPair 38 3 (pc' := 72) (v := i3_11 + 1) (lv' := [(3, .int (i3_11 + 1)), (0, .ref a_t), (1, .int x1), (2, .int x2)]) rfl rfl rfl rfl (by decide) rfl ?_
            refine A_goto K d_Model_isPair 39 (pc' := 56) rfl rfl ?_
            refine A_lv [1, 2, 3, 0] rfl ?_
            exact ih_14 _ _ h
        · replace h := h.2 q
          refine A_iconst K d_Model_isPair 26 (pc' := 53) (v := 0) rfl rfl (by decide) ?_
          exact hend 27 _ _ _ _ _ _ rfl (Or.inl rfl) h
      · replace h := h.2 q
        refine A_iconst K d_Model_isPair 21 (pc' := 46) (v := 0) rfl rfl (by decide) ?_
        exact hend 22 _ _ _ _ _ _ rfl (Or.inl rfl) h
    · intro J_5 hJ_6 h
      refine A_if_eq K d_Model_isPair 9 38 (pc' := 20) rfl rfl rfl (fun q => ?_) (fun q => ?_)
      · replace h := h.1 q
        refine A_iconst K d_Model_isPair 18 (pc' := 39) (v := 0) rfl rfl (by decide) ?_
        refine A_lv [0, 1, 2] rfl ?_
        exact hJ_6 _ h
      · replace h := h.2 q
        refine A_iload_n K d_Model_isPair 10 1 (pc' := 21) rfl rfl rfl rfl ?_
        refine R_callS_i K d_Model_isPair 11 [] (As := [.int x1]) (rest := [.int z_1, .ref a_t]) (pc' := 24) v_Model_66 ⟨rfl, rfl, Nat.le_trans (Nat.le_of_ble_eq_true rfl) hR1, Nat.le_trans (Nat.le_of_ble_eq_true rfl) hR2⟩ (fun sz => met_Model_isPoint l D cI cJ cZ x1 _ sz) h rfl rfl rfl rfl rfl rfl (Nat.le_of_ble_eq_true rfl) ⟨Nat.zero_le _, Nat.zero_le _⟩ (fun r_7 h => ?_)
        refine A_if_eq K d_Model_isPair 12 34 (pc' := 27) rfl rfl rfl (fun q => ?_) (fun q => ?_)
        · replace h := h.1 q
          refine A_iconst K d_Model_isPair 16 (pc' := 35) (v := 1) rfl rfl (by decide) ?_
          refine A_goto K d_Model_isPair 17 (pc' := 39) rfl rfl ?_
          refine A_lv [0, 1, 2] rfl ?_
          exact hJ_6 _ h
        · replace h := h.2 q
          refine A_iload_n K d_Model_isPair 13 2 (pc' := 28) rfl rfl rfl rfl ?_
          refine R_callS_i K d_Model_isPair 14 [] (As := [.int x2]) (rest := [.int z_1, .ref a_t]) (pc' := 31) v_Model_66 ⟨rfl, rfl, Nat.le_trans (Nat.le_of_ble_eq_true rfl) hR1, Nat.le_trans (Nat.le_of_ble_eq_true rfl) hR2⟩ (fun sz => met_Model_isPoint l D cI cJ cZ x2 _ sz) h rfl rfl rfl rfl rfl rfl (Nat.le_of_ble_eq_true rfl) ⟨Nat.zero_le _, Nat.zero_le _⟩ (fun r_8 h => ?_)
          refine A_if_ne K d_Model_isPair 15 38 (pc' := 34) rfl rfl rfl (fun q => ?_) (fun q => ?_)
          · replace h := h.1 q
            refine A_iconst K d_Model_isPair 18 (pc' := 39) (v := 0) rfl rfl (by decide) ?_
            refine A_lv [0, 1, 2] rfl ?_
            exact hJ_6 _ h
          · replace h := h.2 q
            refine A_iconst K d_Model_isPair 16 (pc' := 35) (v := 1) rfl rfl (by decide) ?_
            refine A_goto K d_Model_isPair 17 (pc' := 39) rfl rfl ?_
            refine A_lv [0, 1, 2] rfl ?_
            exact hJ_6 _ h
  · intro J_2 hJ_3 h
    refine A_if_ne K d_Model_isPair 3 12 (pc' := 8) rfl rfl rfl (fun q => ?_) (fun q => ?_)
    · replace h := h.1 q
      refine A_iconst K d_Model_isPair 6 (pc' := 13) (v := 0) rfl rfl (by decide) ?_
      refine A_lv [0, 1, 2] rfl ?_
      exact hJ_3 _ h
    · replace h := h.2 q
      refine A_iconst K d_Model_isPair 4 (pc' := 9) (v := 1) rfl rfl (by decide) ?_
      refine A_goto K d_Model_isPair 5 (pc' := 13) rfl rfl ?_
      refine A_lv [0, 1, 2] rfl ?_
      exact hJ_3 _ h
theorem met_Model_isPair (l : Launch) (D : va_G) (cI cJ cZ : ClassId) (a_t a_ends a_there a_one a_two a_what a_piece a_kinds a_group a_many a_pieceOf a_numberOf a_ups a_jointUp a_partner a_beyonds a_gone : Nat) (thrown : Int32) (made : Int32) (ends : Nat → Int32) (there : Nat → Int32) (tree : Int32) (items : Int32) (pieces : Int32) (joints : Int32) (group : Nat → Int32) (many : Nat → Int32) (nodes : Int32) (x1 : Int32) (x2 : Int32) (post : Int32 → Int32 → (Nat → Int32) → (Nat → Int32) → Prop) (sz : Nat) : Met l y_Model_isPair (Cond.code y_Model_isPair c_Model_isPair 9 (Option.some Jvm.ClassFile.FieldType.boolean) :: GW) { frames := 2, cells := 0, slots := 0, locals := 50 } (va_Pc [.ref a_t, .int x1, .int x2] (fun U => sk_P D (tyl cI cJ cZ) (w_Model_isPair cI cJ cZ a_t a_ends a_there a_one a_two a_what a_piece a_kinds a_group a_many a_pieceOf a_numberOf a_ups a_jointUp a_partner a_beyonds a_gone thrown made ends there tree items pieces joints group many nodes) sz U ∧ wp_Model_isPair thrown made ends there tree group many x1 x2 post)) (va_Qi (fun (r : Int32) (u : Int32 × (Nat → Int32) × (Nat → Int32)) => post r u.1 u.2.1 u.2.2) (fun u t => sk_B D (tyl cI cJ cZ) (w_Model_isPair cI cJ cZ a_t a_ends a_there a_one a_two a_what a_piece a_kinds a_group a_many a_pieceOf a_numberOf a_ups a_jointUp a_partner a_beyonds a_gone u.1 made ends there tree items pieces joints u.2.1 u.2.2 nodes) (va_A (w_Model_isPair cI cJ cZ a_t a_ends a_there a_one a_two a_what a_piece a_kinds a_group a_many a_pieceOf a_numberOf a_ups a_jointUp a_partner a_beyonds a_gone thrown made ends there tree items pieces joints group many nodes) sz) t) (va_A (w_Model_isPair cI cJ cZ a_t a_ends a_there a_one a_two a_what a_piece a_kinds a_group a_many a_pieceOf a_numberOf a_ups a_jointUp a_partner a_beyonds a_gone thrown made ends there tree items pieces joints group many nodes) sz)) 0 0 (va_A (w_Model_isPair cI cJ cZ a_t a_ends a_there a_one a_two a_what a_piece a_kinds a_group a_many a_pieceOf a_numberOf a_ups a_jointUp a_partner a_beyonds a_gone thrown made ends there tree items pieces joints group many nodes) sz) :=
  sk_intro (by decide) (Nat.le_of_ble_eq_true rfl) (fun p e s m below meth c K hr _ h => bd_Model_isPair K (Nat.le_refl _) (Nat.le_refl _) (fun _ z => z) (fun ti pc r y0 y1 y2 lv hd hb hp => A_zret K d_Model_isPair ti hr (post := (fun (r : Int32) (u : Int32 × (Nat → Int32) × (Nat → Int32)) => post r u.1 u.2.1 u.2.2)) (wl := fun (u : Int32 × (Nat → Int32) × (Nat → Int32)) => w_Model_isPair cI cJ cZ a_t a_ends a_there a_one a_two a_what a_piece a_kinds a_group a_many a_pieceOf a_numberOf a_ups a_jointUp a_partner a_beyonds a_gone u.1 made ends there tree items pieces joints u.2.1 u.2.2 nodes) (y0, y1, y2) hd hb hp) h)
/-! SkeletonTreeModel.comeApart(II)Z -/
def t_Model_comeApart : List (Nat × Instr × Nat) := [(0, .aload_n 0, 1), (1, .aload_n 0, 1), (2, .getfield 74, 3), (5, .ifCond .ne 7, 3), (8, .iconst 1, 1), (9, .goto 4, 3), (12, .iconst 0, 1), (13, .aload_n 0, 1), (14, .getfield 74, 3), (17, .ifCond .eq 21, 3), (20, .iload_n 1, 1), (21, .invokestatic 66, 3), (24, .ifCond .eq 10, 3), (27, .iload_n 2, 1), (28, .invokestatic 66, 3), (31, .ifCond .ne 7, 3), (34, .iconst 1, 1), (35, .goto 4, 3), (38, .iconst 0, 1), (39, .invokevirtual 70, 3), (42, .ifCond .eq 5, 3), (45, .iconst 0, 1), (46, .ireturn, 1), (47, .iload_n 1, 1), (48, .iload_n 2, 1), (49, .if_icmp .eq 23, 3), (52, .aload_n 0, 1), (53, .iload_n 1, 1), (54, .invokevirtual 88, 3), (57, .ifCond .eq 15, 3), (60, .aload_n 0, 1), (61, .iload_n 2, 1), (62, .invokevirtual 88, 3), (65, .ifCond .eq 7, 3), (68, .iconst 1, 1), (69, .goto 4, 3), (72, .iconst 0, 1), (73, .istore_n 3, 1), (74, .iconst 0, 1), (75, .istore 4, 2), (77, .iload 4, 2), (79, .aload_n 0, 1), (80, .getfield 59, 3), (83, .if_icmp .ge 77, 3), (86, .aload_n 0, 1), (87, .getfield 7, 3), (90, .iconst 2, 1), (91, .iload 4, 2), (93, .imul, 1), (94, .iaload, 1), (95, .istore 5, 2), (97, .aload_n 0, 1), (98, .getfield 7, 3), (101, .iconst 2, 1), (102, .iload 4, 2), (104, .imul, 1), (105, .iconst 1, 1), (106, .iadd, 1), (107, .iaload, 1), (108, .istore 6, 2), (110, .iload_n 3, 1), (111, .ifCond .eq 41, 3), (114, .aload_n 0, 1), (115, .getfield 13, 3), (118, .iload 4, 2), (120, .baload, 1), (121, .ifCond .eq 27, 3), (124, .iload 5, 2), (126, .iload_n 1, 1), (127, .if_icmp .ne 9, 3), (130, .iload 6, 2), (132, .iload_n 2, 1), (133, .if_icmp .eq 19, 3), (136, .iload 5, 2), (138, .iload_n 2, 1), (139, .if_icmp .ne 9, 3), (142, .iload 6, 2), (144, .iload_n 1, 1), (145, .if_icmp .eq 7, 3), (148, .iconst 1, 1), (149, .goto 4, 3), (152, .iconst 0, 1), (153, .istore_n 3, 1), (154, .iinc 4 1, 3), (157, .goto (-80), 3), (160, .iconst 0, 1), (161, .istore 4, 2), (163, .iload 4, 2), (165, .bipush 40, 2), (167, .if_icmp .ge 79, 3), (170, .iload_n 3, 1), (171, .ifCond .eq 75, 3), (174, .iload 4, 2), (176, .istore 5, 2), (178, .iload 5, 2), (180, .bipush 40, 2), (182, .if_icmp .ge 58, 3), (185, .iload 4, 2), (187, .iload_n 1, 1), (188, .if_icmp .eq 46, 3), (191, .iload 4, 2), (193, .iload_n 2, 1), (194, .if_icmp .eq 40, 3), (197, .iload 5, 2), (199, .iload_n 1, 1), (200, .if_icmp .eq 34, 3), (203, .iload 5, 2), (205, .iload_n 2, 1), (206, .if_icmp .eq 28, 3), (209, .aload_n 0, 1), (210, .iload 4, 2), (212, .iload 5, 2), (214, .invokevirtual 85, 3), (217, .aload_n 0, 1), (218, .getfield 32, 3), (221, .iload_n 1, 1), (222, .iaload, 1), (223, .aload_n 0, 1), (224, .getfield 32, 3), (227, .iload_n 2, 1), (228, .iaload, 1), (229, .if_icmp .eq 5, 3), (232, .iconst 1, 1), (233, .ireturn, 1), (234, .iinc 5 1, 3), (237, .goto (-59), 3), (240, .iinc 4 1, 3), (243, .goto (-80), 3), (246, .iconst 0, 1), (247, .ireturn, 1)]
set_option maxRecDepth 100000 in
theorem d_Model_comeApart : sk_T c_Model_comeApart t_Model_comeApart := by unfold sk_T t_Model_comeApart; decide +kernel
def w_Model_comeApart (cI cJ cZ : ClassId) (a_t a_ends a_there a_one a_two a_what a_piece a_kinds a_group a_many a_pieceOf a_numberOf a_ups a_jointUp a_partner a_beyonds a_gone : Nat) (thrown : Int32) (made : Int32) (ends : Nat → Int32) (there : Nat → Int32) (tree : Int32) (items : Int32) (pieces : Int32) (joints : Int32) (group : Nat → Int32) (nodes : Int32) : va_W := [(a_t, .inr (5, [.int thrown, .int made, .ref a_ends, .ref a_there, .int tree, .int items, .ref a_one, .ref a_two, .ref a_what, .ref a_piece, .int pieces, .int joints, .ref a_kinds, .ref a_group, .ref a_many, .int nodes, .ref a_pieceOf, .ref a_numberOf, .ref a_ups, .ref a_jointUp, .ref a_partner, .ref a_beyonds, .ref a_gone])), (a_ends, .inl (cI, 200, .inl ends)), (a_there, .inl (cZ, 100, .inl there)), (a_group, .inl (cI, 40, .inl group))]
def wp_Model_comeApart  (thrown : Int32) (made : Int32) (ends : Nat → Int32) (there : Nat → Int32) (tree : Int32) (group : Nat → Int32) (x1 : Int32) (x2 : Int32) (post : Int32 → Int32 → (Nat → Int32) → Prop) : Prop :=
  jn1 (fun (z_1 : Int32) => jn1 (fun (z_4 : Int32) => wp_Model_refused thrown z_1 z_4 (fun r_10 thrown_9 => (r_10 = 0 → jn1 (fun (z_11 : Int32) => ∃ n, sL2 (fun (K_18 : Int32 → Int32 → Prop) (i3_16 : Int32) (i4_17 : Int32) => (made ≤ i4_17 → ∃ n, sL2 (fun (K_23 : Int32 → (Nat → Int32) → Prop) (i4_21 : Int32) (group_22 : Nat → Int32) => (40 ≤ i4_21 → post 0 thrown_9 group_22) ∧ (¬ 40 ≤ i4_21 → (i3_16 = 0 → post 0 thrown_9 group_22) ∧ (¬ i3_16 = 0 → ∃ n, sL2 (fun (K_28 : Int32 → (Nat → Int32) → Prop) (i5_26 : Int32) (group_27 : Nat → Int32) => (40 ≤ i5_26 → K_23 (i4_21 + 1) group_27) ∧ (¬ 40 ≤ i5_26 → (i4_21 = x1 → K_28 (i5_26 + 1) group_27) ∧ (¬ i4_21 = x1 → (i4_21 = x2 → K_28 (i5_26 + 1) group_27) ∧ (¬ i4_21 = x2 → (i5_26 = x1 → K_28 (i5_26 + 1) group_27) ∧ (¬ i5_26 = x1 → (i5_26 = x2 → K_28 (i5_26 + 1) group_27) ∧ (¬ i5_26 = x2 → wp_Model_join made ends there group_27 i4_21 i5_26 (fun group_31 => vp_in x1 40 ∧ vp_in x2 40 ∧ ((group_31 (ix x1)) = (group_31 (ix x2)) → K_28 (i5_26 + 1) group_31) ∧ (¬ (group_31 (ix x1)) = (group_31 (ix x2)) → post 1 thrown_9 group_31)))))))) n i4_21 group_22))) n 0 group) ∧ (¬ made ≤ i4_17 → vp_in (2 * i4_17) 200 ∧ vp_in ((2 * i4_17) + 1) 200 ∧ (i3_16 = 0 → K_18 0 (i4_17 + 1)) ∧ (¬ i3_16 = 0 → vp_in i4_17 100 ∧ ((there (ix i4_17)) = 0 → K_18 1 (i4_17 + 1)) ∧ (¬ (there (ix i4_17)) = 0 → (¬ (ends (ix (2 * i4_17))) = x1 → (¬ (ends (ix (2 * i4_17))) = x2 → K_18 1 (i4_17 + 1)) ∧ ((ends (ix (2 * i4_17))) = x2 → ((ends (ix ((2 * i4_17) + 1))) = x1 → K_18 0 (i4_17 + 1)) ∧ (¬ (ends (ix ((2 * i4_17) + 1))) = x1 → K_18 1 (i4_17 + 1)))) ∧ ((ends (ix (2 * i4_17))) = x1 → ((ends (ix ((2 * i4_17) + 1))) = x2 → K_18 0 (i4_17 + 1)) ∧ (¬ (ends (ix ((2 * i4_17) + 1))) = x2 → (¬ (ends (ix (2 * i4_17))) = x2 → K_18 1 (i4_17 + 1)) ∧ ((ends (ix (2 * i4_17))) = x2 → ((ends (ix ((2 * i4_17) + 1))) = x1 → K_18 0 (i4_17 + 1)) ∧ (¬ (ends (ix ((2 * i4_17) + 1))) = x1 → K_18 1 (i4_17 + 1))))))))) n z_11 0) (fun (J_12 : Int32 → Prop) => (x1 = x2 → J_12 0) ∧ (¬ x1 = x2 → wp_Model_isUsed made ends there x1 (fun r_14 => (r_14 = 0 → J_12 0) ∧ (¬ r_14 = 0 → wp_Model_isUsed made ends there x2 (fun r_15 => (r_15 = 0 → J_12 0) ∧ (¬ r_15 = 0 → J_12 1))))))) ∧ (¬ r_10 = 0 → post 0 thrown_9 group))) (fun (J_5 : Int32 → Prop) => (tree = 0 → J_5 0) ∧ (¬ tree = 0 → wp_Model_isPoint x1 (fun r_7 => (r_7 = 0 → J_5 1) ∧ (¬ r_7 = 0 → wp_Model_isPoint x2 (fun r_8 => (¬ r_8 = 0 → J_5 0) ∧ (r_8 = 0 → J_5 1))))))) (fun (J_2 : Int32 → Prop) => (¬ tree = 0 → J_2 0) ∧ (tree = 0 → J_2 1))
set_option maxHeartbeats 4000000 in
set_option maxRecDepth 100000 in
theorem bd_Model_comeApart {p : Program} {l : Launch} {e : Env} {R : Room} {s : State} {m : MethodId} {args : Array Value} {below : List Frame} {meth : Method} {c : Code} {D : va_G} {A B : Nat → Prop} {Q : State → Prop} {cI cJ cZ : ClassId} {a_t a_ends a_there a_one a_two a_what a_piece a_kinds a_group a_many a_pieceOf a_numberOf a_ups a_jointUp a_partner a_beyonds a_gone : Nat} {thrown : Int32} {made : Int32} {ends : Nat → Int32} {there : Nat → Int32} {tree : Int32} {items : Int32} {pieces : Int32} {joints : Int32} {group : Nat → Int32} {nodes : Int32} {x1 : Int32} {x2 : Int32} (K : sk_C p s m args meth c c_Model_comeApart 7 "SkeletonTreeModel" D (tyl cI cJ cZ)) (hR1 : 2 ≤ R.frames) (hR2 : 50 ≤ R.locals) (hBA : ∀ q : Nat, B q → A q) {post : Int32 → Int32 → (Nat → Int32) → Prop} (hend : ∀ (ti pc : Nat) (r : Int32) (y0 : Int32) (y1 : Nat → Int32) (lv : List (Nat × Value)), t_Model_comeApart[ti]? = some (pc, .ireturn, 1) → sk_b r → post r y0 y1 → AW p l e R s m args below meth c D A B 7 Q 0 0 (w_Model_comeApart cI cJ cZ a_t a_ends a_there a_one a_two a_what a_piece a_kinds a_group a_many a_pieceOf a_numberOf a_ups a_jointUp a_partner a_beyonds a_gone y0 made ends there tree items pieces joints y1 nodes) lv pc [.int r]) (h : wp_Model_comeApart thrown made ends there tree group x1 x2 post) : AW p l e R s m args below meth c D A B 7 Q 0 0 (w_Model_comeApart cI cJ cZ a_t a_ends a_there a_one a_two a_what a_piece a_kinds a_group a_many a_pieceOf a_numberOf a_ups a_jointUp a_partner a_beyonds a_gone thrown made ends there tree items pieces joints group nodes) [(0, .ref a_t), (1, .int x1), (2, .int x2)] 0 [] := by
  unfold wp_Model_comeApart at h
  refine A_aload_n K d_Model_comeApart 0 0 (pc' := 1) rfl rfl rfl rfl ?_
  refine A_aload_n K d_Model_comeApart 1 0 (pc' := 2) rfl rfl rfl rfl ?_
  refine A_get K d_Model_comeApart 2 0 fl_Model_74 (pc' := 5) rfl rfl rfl rfl ?_
  refine jn1_use (fun (z_1 : Int32) => AW p l e R s m args below meth c D A B 7 Q 0 0 (w_Model_comeApart cI cJ cZ a_t a_ends a_there a_one a_two a_what a_piece a_kinds a_group a_many a_pieceOf a_numberOf a_ups a_jointUp a_partner a_beyonds a_gone thrown made ends there tree items pieces joints group nodes) [(0, .ref a_t), (1, .int x1), (2, .int x2)] 13 [.int z_1, .ref a_t]) h ?_ ?_
  · intro z_1 h
    refine A_aload_n K d_Model_comeApart 7 0 (pc' := 14) rfl rfl rfl rfl ?_
    refine A_get K d_Model_comeApart 8 0 fl_Model_74 (pc' := 17) rfl rfl rfl rfl ?_
    refine jn1_use (fun (z_4 : Int32) => AW p l e R s m args below meth c D A B 7 Q 0 0 (w_Model_comeApart cI cJ cZ a_t a_ends a_there a_one a_two a_what a_piece a_kinds a_group a_many a_pieceOf a_numberOf a_ups a_jointUp a_partner a_beyonds a_gone thrown made ends there tree items pieces joints group nodes) [(0, .ref a_t), (1, .int x1), (2, .int x2)] 39 [.int z_4, .int z_1, .ref a_t]) h ?_ ?_
    · intro z_4 h
      refine C_Vi1 K hBA d_Model_comeApart 19 [0] [some 0, none, none, none] (As := [.int z_1, .int z_4]) (rest := []) (pc' := 42) (wl := fun thrown_9 => w_Model_refused cI cJ cZ a_t a_ends a_there a_one a_two a_what a_piece a_kinds a_group a_many a_pieceOf a_numberOf a_ups a_jointUp a_partner a_beyonds a_gone thrown_9 made tree items pieces joints nodes) (ws' := fun thrown_9 => w_Model_comeApart cI cJ cZ a_t a_ends a_there a_one a_two a_what a_piece a_kinds a_group a_many a_pieceOf a_numberOf a_ups a_jointUp a_partner a_beyonds a_gone thrown_9 made ends there tree items pieces joints group nodes) v_Model_70 ⟨rfl, rfl, Nat.le_trans (Nat.le_of_ble_eq_true rfl) hR1, Nat.le_trans (Nat.le_of_ble_eq_true rfl) hR2⟩ (fun sz => met_Model_refused l D cI cJ cZ a_t a_ends a_there a_one a_two a_what a_piece a_kinds a_group a_many a_pieceOf a_numberOf a_ups a_jointUp a_partner a_beyonds a_gone thrown made tree items pieces joints nodes z_1 z_4 _ sz) h rfl rfl rfl rfl rfl (fun _ => rfl) rfl (by decide) (Nat.le_of_ble_eq_true rfl) ⟨Nat.zero_le _, Nat.zero_le _⟩ (q0 := 0) rfl rfl (fun _ => rfl) (fun r_10 thrown_9 h => ?_)
      refine A_if_eq K d_Model_comeApart 20 47 (pc' := 45) rfl rfl rfl (fun q => ?_) (fun q => ?_)
      · replace h := h.1 q
        refine A_iload_n K d_Model_comeApart 23 1 (pc' := 48) rfl rfl rfl rfl ?_
        refine A_iload_n K d_Model_comeApart 24 2 (pc' := 49) rfl rfl rfl rfl ?_
        refine jn1_use (fun (z_11 : Int32) => AW p l e R s m args below meth c D A B 7 Q 0 0 (w_Model_comeApart cI cJ cZ a_t a_ends a_there a_one a_two a_what a_piece a_kinds a_group a_many a_pieceOf a_numberOf a_ups a_jointUp a_partner a_beyonds a_gone thrown_9 made ends there tree items pieces joints group nodes) [(0, .ref a_t), (1, .int x1), (2, .int x2)] 73 [.int z_11]) h ?_ ?_
        · intro z_11 h
          refine A_istore_n K d_Model_comeApart 37 (pc' := 74) (lv' := [(3, .int z_11), (0, .ref a_t), (1, .int x1), (2, .int x2)]) rfl rfl rfl (by decide) rfl ?_
          refine A_iconst K d_Model_comeApart 38 (pc' := 75) (v := 0) rfl rfl (by decide) ?_
          refine A_istore K d_Model_comeApart 39 (pc' := 77) (lv' := [(4, .int 0), (3, .int z_11), (0, .ref a_t), (1, .int x1), (2, .int x2)]) rfl rfl (by decide) rfl ?_
          refine A_lv [2, 3, 4, 1, 0] rfl ?_
          obtain ⟨n_20, h⟩ := h
          refine sL2_ind (fun (i3_16 : Int32) (i4_17 : Int32) => AW p l e R s m args below meth c D A B 7 Q 0 0 (w_Model_comeApart cI cJ cZ a_t a_ends a_there a_one a_two a_what a_piece a_kinds a_group a_many a_pieceOf a_numberOf a_ups a_jointUp a_partner a_beyonds a_gone thrown_9 made ends there tree items pieces joints group nodes) [(0, .ref a_t), (1, .int x1), (2, .int x2), (3, .int i3_16), (4, .int i4_17)] 77 []) ?_ n_20 _ _ h
          intro K_18 ih_19 i3_16 i4_17 h
          refine A_iload K d_Model_comeApart 40 4 (pc' := 79) rfl rfl rfl ?_
          refine A_aload_n K d_Model_comeApart 41 0 (pc' := 80) rfl rfl rfl rfl ?_
          refine A_get K d_Model_comeApart 42 0 fl_Model_59 (pc' := 83) rfl rfl rfl rfl ?_
          refine A_icmp_ge K d_Model_comeApart 43 160 (pc' := 86) rfl rfl rfl (fun q => ?_) (fun q => ?_)
          · replace h := h.1 q
            refine A_iconst K d_Model_comeApart 85 (pc' := 161) (v := 0) rfl rfl (by decide) ?_
            refine A_istore K d_Model_comeApart 86 (pc' := 163) (lv' := [(4, .int 0), (0, .ref a_t), (1, .int x1), (2, .int x2), (3, .int i3_16)]) rfl rfl (by decide) rfl ?_
            refine A_lv [1, 2, 3, 4, 0] rfl ?_
            obtain ⟨n_25, h⟩ := h
            refine sL2_ind (fun (i4_21 : Int32) (group_22 : Nat → Int32) => AW p l e R s m args below meth c D A B 7 Q 0 0 (w_Model_comeApart cI cJ cZ a_t a_ends a_there a_one a_two a_what a_piece a_kinds a_group a_many a_pieceOf a_numberOf a_ups a_jointUp a_partner a_beyonds a_gone thrown_9 made ends there tree items pieces joints group_22 nodes) [(0, .ref a_t), (1, .int x1), (2, .int x2), (3, .int i3_16), (4, .int i4_21)] 163 []) ?_ n_25 _ _ h
            intro K_23 ih_24 i4_21 group_22 h
            refine A_iload K d_Model_comeApart 87 4 (pc' := 165) rfl rfl rfl ?_
            refine A_bipush K d_Model_comeApart 88 (pc' := 167) (v := 40) rfl rfl (by decide) ?_
            refine A_icmp_ge K d_Model_comeApart 89 246 (pc' := 170) rfl rfl rfl (fun q => ?_) (fun q => ?_)
            · replace h := h.1 q
              refine A_iconst K d_Model_comeApart 128 (pc' := 247) (v := 0) rfl rfl (by decide) ?_
              exact hend 129 _ _ _ _ _ rfl (Or.inl rfl) h
            · replace h := h.2 q
              refine A_iload_n K d_Model_comeApart 90 3 (pc' := 171) rfl rfl rfl rfl ?_
              refine A_if_eq K d_Model_comeApart 91 246 (pc' := 174) rfl rfl rfl (fun q => ?_) (fun q => ?_)
              · replace h := h.1 q
                refine A_iconst K d_Model_comeApart 128 (pc' := 247) (v := 0) rfl rfl (by decide) ?_
                exact hend 129 _ _ _ _ _ rfl (Or.inl rfl) h
              · replace h := h.2 q
                refine A_iload K d_Model_comeApart 92 4 (pc' := 176) rfl rfl rfl ?_
                refine A_istore K d_Model_comeApart 93 (pc' := 178) (lv' := [(5, .int i4_21), (0, .ref a_t), (1, .int x1), (2, .int x2), (3, .int i3_16), (4, .int i4_21)]) rfl rfl (by decide) rfl ?_
                refine A_lv [1, 2, 3, 4, 5, 0] rfl ?_
                obtain ⟨n_30, h⟩ := h
                refine sL2_ind (fun (i5_26 : Int32) (group_27 : Nat → Int32) => AW p l e R s m args below meth c D A B 7 Q 0 0 (w_Model_comeApart cI cJ cZ a_t a_ends a_there a_one a_two a_what a_piece a_kinds a_group a_many a_pieceOf a_numberOf a_ups a_jointUp a_partner a_beyonds a_gone thrown_9 made ends there tree items pieces joints group_27 nodes) [(0, .ref a_t), (1, .int x1), (2, .int x2), (3, .int i3_16), (4, .int i4_21), (5, .int i5_26)] 178 []) ?_ n_30 _ _ h
                intro K_28 ih_29 i5_26 group_27 h
                refine A_iload K d_Model_comeApart 94 5 (pc' := 180) rfl rfl rfl ?_
                refine A_bipush K d_Model_comeApart 95 (pc' := 182) (v := 40) rfl rfl (by decide) ?_
                refine A_icmp_ge K d_Model_comeApart 96 240 (pc' := 185) rfl rfl rfl (fun q => ?_) (fun q => ?_)
                · replace h := h.1 q
                  refine A_iinc K d_Model_comeApart 126 4 (pc' := 243) (v := i4_21 + 1) (lv' := [(4, .int (i4_21 + 1)), (0, .ref a_t), (1, .int x1), (2, .int x2), (3, .int i3_16), (5, .int i5_26)]) rfl rfl rfl rfl (by decide) rfl ?_
                  refine A_goto K d_Model_comeApart 127 (pc' := 163) rfl rfl ?_
                  refine A_lv [1, 2, 3, 4, 0] rfl ?_
                  exact ih_24 _ _ h
                · replace h := h.2 q
                  refine A_iload K d_Model_comeApart 97 4 (pc' := 187) rfl rfl rfl ?_
                  refine A_iload_n K d_Model_comeApart 98 1 (pc' := 188) rfl rfl rfl rfl ?_
                  refine A_icmp_eq K d_Model_comeApart 99 234 (pc' := 191) rfl rfl rfl (fun q => ?_) (fun q => ?_)
                  · replace h := h.1 q
                    refine A_iinc K d_Model_comeApart 124 5 (pc' := 237) (v := i5_26 + 1) (lv' := [(5, .int (i5_26 + 1)), (0, .ref a_t), (1, .int x1), (2, .int x2), (3, .int i3_16), (4, .int i4_21)]) rfl rfl rfl rfl (by decide) rfl ?_
                    refine A_goto K d_Model_comeApart 125 (pc' := 178) rfl rfl ?_
                    refine A_lv [1, 2, 3, 4, 5, 0] rfl ?_
                    exact ih_29 _ _ h
                  · replace h := h.2 q
                    refine A_iload K d_Model_comeApart 100 4 (pc' := 193) rfl rfl rfl ?_
                    refine A_iload_n K d_Model_comeApart 101 2 (pc' := 194) rfl rfl rfl rfl ?_
                    refine A_icmp_eq K d_Model_comeApart 102 234 (pc' := 197) rfl rfl rfl (fun q => ?_) (fun q => ?_)
                    · replace h := h.1 q
                      refine A_iinc K d_Model_comeApart 124 5 (pc' := 237) (v := i5_26 + 1) (lv' := [(5, .int (i5_26 + 1)), (0, .ref a_t), (1, .int x1), (2, .int x2), (3, .int i3_16), (4, .int i4_21)]) rfl rfl rfl rfl (by decide) rfl ?_
                      refine A_goto K d_Model_comeApart 125 (pc' := 178) rfl rfl ?_
                      refine A_lv [1, 2, 3, 4, 5, 0] rfl ?_
                      exact ih_29 _ _ h
                    · replace h := h.2 q
                      refine A_iload K d_Model_comeApart 103 5 (pc' := 199) rfl rfl rfl ?_
                      refine A_iload_n K d_Model_comeApart 104 1 (pc' := 200) rfl rfl rfl rfl ?_
                      refine A_icmp_eq K d_Model_comeApart 105 234 (pc' := 203) rfl rfl rfl (fun q => ?_) (fun q => ?_)
                      · replace h := h.1 q
                        refine A_iinc K d_Model_comeApart 124 5 (pc' := 237) (v := i5_26 + 1) (lv' := [(5, .int (i5_26 + 1)), (0, .ref a_t), (1, .int x1), (2, .int x2), (3, .int i3_16), (4, .int i4_21)]) rfl rfl rfl rfl (by decide) rfl ?_
                        refine A_goto K d_Model_comeApart 125 (pc' := 178) rfl rfl ?_
                        refine A_lv [1, 2, 3, 4, 5, 0] rfl ?_
                        exact ih_29 _ _ h
                      · replace h := h.2 q
                        refine A_iload K d_Model_comeApart 106 5 (pc' := 205) rfl rfl rfl ?_
                        refine A_iload_n K d_Model_comeApart 107 2 (pc' := 206) rfl rfl rfl rfl ?_
                        refine A_icmp_eq K d_Model_comeApart 108 234 (pc' := 209) rfl rfl rfl (fun q => ?_) (fun q => ?_)
                        · replace h := h.1 q
                          refine A_iinc K d_Model_comeApart 124 5 (pc' := 237) (v := i5_26 + 1) (lv' := [(5, .int (i5_26 + 1)), (0, .ref a_t), (1, .int x1), (2, .int x2), (3, .int i3_16), (4, .int i4_21)]) rfl rfl rfl rfl (by decide) rfl ?_
                          refine A_goto K d_Model_comeApart 125 (pc' := 178) rfl rfl ?_
                          refine A_lv [1, 2, 3, 4, 5, 0] rfl ?_
                          exact ih_29 _ _ h
                        · replace h := h.2 q
                          refine A_aload_n K d_Model_comeApart 109 0 (pc' := 210) rfl rfl rfl rfl ?_
                          refine A_iload K d_Model_comeApart 110 4 (pc' := 212) rfl rfl rfl ?_
                          refine A_iload K d_Model_comeApart 111 5 (pc' := 214) rfl rfl rfl ?_
                          refine C_Vv1 K hBA d_Model_comeApart 112 [0, 1, 2, 3] [some 0, some 1, some 2, some 3] (As := [.int i4_21, .int i5_26]) (rest := []) (pc' := 217) (wl := fun group_31 => w_Model_join cI cJ cZ a_t a_ends a_there a_one a_two a_what a_piece a_kinds a_group a_many a_pieceOf a_numberOf a_ups a_jointUp a_partner a_beyonds a_gone thrown_9 made ends there tree items pieces joints group_31 nodes) (ws' := fun group_31 => w_Model_comeApart cI cJ cZ a_t a_ends a_there a_one a_two a_what a_piece a_kinds a_group a_many a_pieceOf a_numberOf a_ups a_jointUp a_partner a_beyonds a_gone thrown_9 made ends there tree items pieces joints group_31 nodes) v_Model_85 ⟨rfl, rfl, Nat.le_trans (Nat.le_of_ble_eq_true rfl) hR1, Nat.le_trans (Nat.le_of_ble_eq_true rfl) hR2⟩ (fun sz => met_Model_join l D cI cJ cZ a_t a_ends a_there a_one a_two a_what a_piece a_kinds a_group a_many a_pieceOf a_numberOf a_ups a_jointUp a_partner a_beyonds a_gone thrown_9 made ends there tree items pieces joints group_27 nodes i4_21 i5_26 _ sz) h rfl rfl rfl rfl rfl (fun _ => rfl) rfl (by decide) (Nat.le_of_ble_eq_true rfl) ⟨Nat.zero_le _, Nat.zero_le _⟩ (q0 := 0) rfl rfl (fun _ => rfl) (fun group_31 h => ?_)
                          refine A_aload_n K d_Model_comeApart 113 0 (pc' := 218) rfl rfl rfl rfl ?_
                          refine A_get K d_Model_comeApart 114 0 fl_Model_32 (pc' := 221) rfl rfl rfl rfl ?_
                          refine A_iload_n K d_Model_comeApart 115 1 (pc' := 222) rfl rfl rfl rfl ?_
                          refine A_iald K d_Model_comeApart 116 3 0 (pc' := 223) rfl rfl rfl rfl h.1 ?_
                          replace h := h.2
                          refine A_aload_n K d_Model_comeApart 117 0 (pc' := 224) rfl rfl rfl rfl ?_
                          refine A_get K d_Model_comeApart 118 0 fl_Model_32 (pc' := 227) rfl rfl rfl rfl ?_
                          refine A_iload_n K d_Model_comeApart 119 2 (pc' := 228) rfl rfl rfl rfl ?_
                          refine A_iald K d_Model_comeApart 120 3 0 (pc' := 229) rfl rfl rfl rfl h.1 ?_
                          replace h := h.2
                          refine A_icmp_eq K d_Model_comeApart 121 234 (pc' := 232) rfl rfl rfl (fun q => ?_) (fun q => ?_)
                          · replace h := h.1 q
                            refine A_iinc K d_Model_comeApart 124 5 (pc' := 237) (v := i5_26 + 1) (lv' := [(5, .int (i5_26 + 1)), (0, .ref a_t), (1, .int x1), (2, .int x2), (3, .int i3_16), (4, .int i4_21)]) rfl rfl rfl rfl (by decide) rfl ?_
                            refine A_goto K d_Model_comeApart 125 (pc' := 178) rfl rfl ?_
                            refine A_lv [1, 2, 3, 4, 5, 0] rfl ?_
                            exact ih_29 _ _ h
                          · replace h := h.2 q
                            refine A_iconst K d_Model_comeApart 122 (pc' := 233) (v := 1) rfl rfl (by decide) ?_
                            exact hend 123 _ _ _ _ _ rfl (Or.inr rfl) h
          · replace h := h.2 q
            refine A_aload_n K d_Model_comeApart 44 0 (pc' := 87) rfl rfl rfl rfl ?_
            refine A_get K d_Model_comeApart 45 0 fl_Model_7 (pc' := 90) rfl rfl rfl rfl ?_
            refine A_iconst K d_Model_comeApart 46 (pc' := 91) (v := 2) rfl rfl (by decide) ?_
            refine A_iload K d_Model_comeApart 47 4 (pc' := 93) rfl rfl rfl ?_
            refine A_imul K d_Model_comeApart 48 (pc' := 94) rfl rfl ?_
            refine A_iald K d_Model_comeApart 49 1 0 (pc' := 95) rfl rfl rfl rfl h.1 ?_
            replace h := h.2
            refine A_istore K d_Model_comeApart 50 (pc' := 97) (lv' := [(5, .int (ends (ix (2 * i4_17)))), (0, .ref a_t), (1, .int x1), (2, .int x2), (3, .int i3_16), (4, .int i4_17)]) rfl rfl (by decide) rfl ?_
            refine A_aload_n K d_Model_comeApart 51 1 (pc' := 98) rfl rfl rfl rfl ?_
            refine A_get K d_Model_comeApart 52 0 fl_Model_7 (pc' := 101) rfl rfl rfl rfl ?_
            refine A_iconst K d_Model_comeApart 53 (pc' := 102) (v := 2) rfl rfl (by decide) ?_
            refine A_iload K d_Model_comeApart 54 5 (pc' := 104) rfl rfl rfl ?_
            refine A_imul K d_Model_comeApart 55 (pc' := 105) rfl rfl ?_
            refine A_iconst K d_Model_comeApart 56 (pc' := 106) (v := 1) rfl rfl (by decide) ?_
            refine A_iadd K d_Model_comeApart 57 (pc' := 107) rfl rfl ?_
            refine A_iald K d_Model_comeApart 58 1 0 (pc' := 108) rfl rfl rfl rfl h.1 ?_
            replace h := h.2
            refine A_istore K d_Model_comeApart 59 (pc' := 110) (lv' := [(6, .int (ends (ix ((2 * i4_17) + 1)))), (5, .int (ends (ix (2 * i4_17)))), (0, .ref a_t), (1, .int x1), (2, .int x2), (3, .int i3_16), (4, .int i4_17)]) rfl rfl (by decide) rfl ?_
            refine A_iload_n K d_Model_comeApart 60 5 (pc' := 111) rfl rfl rfl rfl ?_
            refine A_if_eq K d_Model_comeApart 61 152 (pc' := 114) rfl rfl rfl (fun q => ?_) (fun q => ?_)
            · replace h := h.1 q
              refine A_iconst K d_Model_comeApart 81 (pc' := 153) (v := 0) rfl rfl (by decide) ?_
              refine A_istore_n K d_Model_comeApart 82 (pc' := 154) (lv' := [(3, .int 0), (6, .int (ends (ix ((2 * i4_17) + 1)))), (5, .int (ends (ix (2 * i4_17)))), (0, .ref a_t), (1, .int x1), (2, .int x2), (4, .int i4_17)]) rfl rfl rfl (by decide) rfl ?_
              refine A_iinc K d_Model_comeApart 83 6 (pc' := 157) (v := i4_17 + 1) (lv' := [(4, .int (i4_17 + 1)), (3, .int 0), (6, .int (ends (ix ((2 * i4_17) + 1)))), (5, .int (ends (ix (2 * i4_17)))), (0, .ref a_t), (1, .int x1), (2, .int x2)]) rfl rfl rfl rfl (by decide) rfl ?_
              refine A_goto K d_Model_comeApart 84 (pc' := 77) rfl rfl ?_
              refine A_lv [4, 5, 6, 1, 0] rfl ?_
              exact ih_19 _ _ h
            · replace h := h.2 q
              refine A_aload_n K d_Model_comeApart 62 2 (pc' := 115) rfl rfl rfl rfl ?_
              refine A_get K d_Model_comeApart 63 0 fl_Model_13 (pc' := 118) rfl rfl rfl rfl ?_
              refine A_iload K d_Model_comeApart 64 6 (pc' := 120) rfl rfl rfl ?_
              refine A_zald K d_Model_comeApart 65 2 2 (pc' := 121) rfl rfl rfl rfl h.1 ?_
              replace h := h.2
              refine A_if_eq K d_Model_comeApart 66 148 (pc' := 124) rfl rfl rfl (fun q => ?_) (fun q => ?_)
              · replace h := h.1 q
                refine A_iconst K d_Model_comeApart 79 (pc' := 149) (v := 1) rfl rfl (by decide) ?_
                refine A_goto K d_Model_comeApart 80 (pc' := 153) rfl rfl ?_
                refine A_istore_n K d_Model_comeApart 82 (pc' := 154) (lv' := [(3, .int 1), (6, .int (ends (ix ((2 * i4_17) + 1)))), (5, .int (ends (ix (2 * i4_17)))), (0, .ref a_t), (1, .int x1), (2, .int x2), (4, .int i4_17)]) rfl rfl rfl (by decide) rfl ?_
                refine A_iinc K d_Model_comeApart 83 6 (pc' := 157) (v := i4_17 + 1) (lv' := [(4, .int (i4_17 + 1)), (3, .int 1), (6, .int (ends (ix ((2 * i4_17) + 1)))), (5, .int (ends (ix (2 * i4_17)))), (0, .ref a_t), (1, .int x1), (2, .int x2)]) rfl rfl rfl rfl (by decide) rfl ?_
                refine A_goto K d_Model_comeApart 84 (pc' := 77) rfl rfl ?_
                refine A_lv [4, 5, 6, 1, 0] rfl ?_
                exact ih_19 _ _ h
              · replace h := h.2 q
                refine A_iload K d_Model_comeApart 67 1 (pc' := 126) rfl rfl rfl ?_
                refine A_iload_n K d_Model_comeApart 68 3 (pc' := 127) rfl rfl rfl rfl ?_
                refine A_icmp_ne K d_Model_comeApart 69 136 (pc' := 130) rfl rfl rfl (fun q => ?_) (fun q => ?_)
                · replace h := h.1 q
                  refine A_iload K d_Model_comeApart 73 1 (pc' := 138) rfl rfl rfl ?_
                  refine A_iload_n K d_Model_comeApart 74 4 (pc' := 139) rfl rfl rfl rfl ?_
                  refine A_icmp_ne K d_Model_comeApart 75 148 (pc' := 142) rfl rfl rfl (fun q => ?_) (fun q => ?_)
                  · replace h := h.1 q
                    refine A_iconst K d_Model_comeApart 79 (pc' := 149) (v := 1) rfl rfl (by decide) ?_
                    refine A_goto K d_Model_comeApart 80 (pc' := 153) rfl rfl ?_
                    refine A_istore_n K d_Model_comeApart 82 (pc' := 154) (lv' := [(3, .int 1), (6, .int (ends (ix ((2 * i4_17) + 1)))), (5, .int (ends (ix (2 * i4_17)))), (0, .ref a_t), (1, .int x1), (2, .int x2), (4, .int i4_17)]) rfl rfl rfl (by decide) rfl ?_
                    refine A_iinc K d_Model_comeApart 83 6 (pc' := 157) (v := i4_17 + 1) (lv' := [(4, .int (i4_17 + 1)), (3, .int 1), (6, .int (ends (ix ((2 * i4_17) + 1)))), (5, .int (ends (ix (2 * i4_17)))), (0, .ref a_t), (1, .int x1), (2, .int x2)]) rfl rfl rfl rfl (by decide) rfl ?_
                    refine A_goto K d_Model_comeApart 84 (pc' := 77) rfl rfl ?_
                    refine A_lv [4, 5, 6, 1, 0] rfl ?_
                    exact ih_19 _ _ h
                  · replace h := h.2 q
                    refine A_iload K d_Model_comeApart 76 0 (pc' := 144) rfl rfl rfl ?_
                    refine A_iload_n K d_Model_comeApart 77 3 (pc' := 145) rfl rfl rfl rfl ?_
                    refine A_icmp_eq K d_Model_comeApart 78 152 (pc' := 148) rfl rfl rfl (fun q => ?_) (fun q => ?_)
                    · replace h := h.1 q
                      refine A_iconst K d_Model_comeApart 81 (pc' := 153) (v := 0) rfl rfl (by decide) ?_
                      refine A_istore_n K d_Model_comeApart 82 (pc' := 154) (lv' := [(3, .int 0), (6, .int (ends (ix ((2 * i4_17) + 1)))), (5, .int (ends (ix (2 * i4_17)))), (0, .ref a_t), (1, .int x1), (2, .int x2), (4, .int i4_17)]) rfl rfl rfl (by decide) rfl ?_
                      refine A_iinc K d_Model_comeApart 83 6 (pc' := 157) (v := i4_17 + 1) (lv' := [(4, .int (i4_17 + 1)), (3, .int 0), (6, .int (ends (ix ((2 * i4_17) + 1)))), (5, .int (ends (ix (2 * i4_17)))), (0, .ref a_t), (1, .int x1), (2, .int x2)]) rfl rfl rfl rfl (by decide) rfl ?_
                      refine A_goto K d_Model_comeApart 84 (pc' := 77) rfl rfl ?_
                      refine A_lv [4, 5, 6, 1, 0] rfl ?_
                      exact ih_19 _ _ h
                    · replace h := h.2 q
                      refine A_iconst K d_Model_comeApart 79 (pc' := 149) (v := 1) rfl rfl (by decide) ?_
                      refine A_goto K d_Model_comeApart 80 (pc' := 153) rfl rfl ?_
                      refine A_istore_n K d_Model_comeApart 82 (pc' := 154) (lv' := [(3, .int 1), (6, .int (ends (ix ((2 * i4_17) + 1)))), (5, .int (ends (ix (2 * i4_17)))), (0, .ref a_t), (1, .int x1), (2, .int x2), (4, .int i4_17)]) rfl rfl rfl (by decide) rfl ?_
                      refine A_iinc K d_Model_comeApart 83 6 (pc' := 157) (v := i4_17 + 1) (lv' := [(4, .int (i4_17 + 1)), (3, .int 1), (6, .int (ends (ix ((2 * i4_17) + 1)))), (5, .int (ends (ix (2 * i4_17)))), (0, .ref a_t), (1, .int x1), (2, .int x2)]) rfl rfl rfl rfl (by decide) rfl ?_
                      refine A_goto K d_Model_comeApart 84 (pc' := 77) rfl rfl ?_
                      refine A_lv [4, 5, 6, 1, 0] rfl ?_
                      exact ih_19 _ _ h
                · replace h := h.2 q
                  refine A_iload K d_Model_comeApart 70 0 (pc' := 132) rfl rfl rfl ?_
                  refine A_iload_n K d_Model_comeApart 71 4 (pc' := 133) rfl rfl rfl rfl ?_
                  refine A_icmp_eq K d_Model_comeApart 72 152 (pc' := 136) rfl rfl rfl (fun q => ?_) (fun q => ?_)
                  · replace h := h.1 q
                    refine A_iconst K d_Model_comeApart 81 (pc' := 153) (v := 0) rfl rfl (by decide) ?_
                    refine A_istore_n K d_Model_comeApart 82 (pc' := 154) (lv' := [(3, .int 0), (6, .int (ends (ix ((2 * i4_17) + 1)))), (5, .int (ends (ix (2 * i4_17)))), (0, .ref a_t), (1, .int x1), (2, .int x2), (4, .int i4_17)]) rfl rfl rfl (by decide) rfl ?_
                    refine A_iinc K d_Model_comeApart 83 6 (pc' := 157) (v := i4_17 + 1) (lv' := [(4, .int (i4_17 + 1)), (3, .int 0), (6, .int (ends (ix ((2 * i4_17) + 1)))), (5, .int (ends (ix (2 * i4_17)))), (0, .ref a_t), (1, .int x1), (2, .int x2)]) rfl rfl rfl rfl (by decide) rfl ?_
                    refine A_goto K d_Model_comeApart 84 (pc' := 77) rfl rfl ?_
                    refine A_lv [4, 5, 6, 1, 0] rfl ?_
                    exact ih_19 _ _ h
                  · replace h := h.2 q
                    refine A_iload K d_Model_comeApart 73 1 (pc' := 138) rfl rfl rfl ?_
                    refine A_iload_n K d_Model_comeApart 74 4 (pc' := 139) rfl rfl rfl rfl ?_
                    refine A_icmp_ne K d_Model_comeApart 75 148 (pc' := 142) rfl rfl rfl (fun q => ?_) (fun q => ?_)
                    · replace h := h.1 q
                      refine A_iconst K d_Model_comeApart 79 (pc' := 149) (v := 1) rfl rfl (by decide) ?_
                      refine A_goto K d_Model_comeApart 80 (pc' := 153) rfl rfl ?_
                      refine A_istore_n K d_Model_comeApart 82 (pc' := 154) (lv' := [(3, .int 1), (6, .int (ends (ix ((2 * i4_17) + 1)))), (5, .int (ends (ix (2 * i4_17)))), (0, .ref a_t), (1, .int x1), (2, .int x2), (4, .int i4_17)]) rfl rfl rfl (by decide) rfl ?_
                      refine A_iinc K d_Model_comeApart 83 6 (pc' := 157) (v := i4_17 + 1) (lv' := [(4, .int (i4_17 + 1)), (3, .int 1), (6, .int (ends (ix ((2 * i4_17) + 1)))), (5, .int (ends (ix (2 * i4_17)))), (0, .ref a_t), (1, .int x1), (2, .int x2)]) rfl rfl rfl rfl (by decide) rfl ?_
                      refine A_goto K d_Model_comeApart 84 (pc' := 77) rfl rfl ?_
                      refine A_lv [4, 5, 6, 1, 0] rfl ?_
                      exact ih_19 _ _ h
                    · replace h := h.2 q
                      refine A_iload K d_Model_comeApart 76 0 (pc' := 144) rfl rfl rfl ?_
                      refine A_iload_n K d_Model_comeApart 77 3 (pc' := 145) rfl rfl rfl rfl ?_
                      refine A_icmp_eq K d_Model_comeApart 78 152 (pc' := 148) rfl rfl rfl (fun q => ?_) (fun q => ?_)
                      · replace h := h.1 q
                        refine A_iconst K d_Model_comeApart 81 (pc' := 153) (v := 0) rfl rfl (by decide) ?_
                        refine A_istore_n K d_Model_comeApart 82 (pc' := 154) (lv' := [(3, .int 0), (6, .int (ends (ix ((2 * i4_17) + 1)))), (5, .int (ends (ix (2 * i4_17)))), (0, .ref a_t), (1, .int x1), (2, .int x2), (4, .int i4_17)]) rfl rfl rfl (by decide) rfl ?_
                        refine A_iinc K d_Model_comeApart 83 6 (pc' := 157) (v := i4_17 + 1) (lv' := [(4, .int (i4_17 + 1)), (3, .int 0), (6, .int (ends (ix ((2 * i4_17) + 1)))), (5, .int (ends (ix (2 * i4_17)))), (0, .ref a_t), (1, .int x1), (2, .int x2)]) rfl rfl rfl rfl (by decide) rfl ?_
                        refine A_goto K d_Model_comeApart 84 (pc' := 77) rfl rfl ?_
                        refine A_lv [4, 5, 6, 1, 0] rfl ?_
                        exact ih_19 _ _ h
                      · replace h := h.2 q
                        refine A_iconst K d_Model_comeApart 79 (pc' := 149) (v := 1) rfl rfl (by decide) ?_
                        refine A_goto K d_Model_comeApart 80 (pc' := 153) rfl rfl ?_
                        refine A_istore_n K d_Model_comeApart 82 (pc' := 154) (lv' := [(3, .int 1), (6, .int (ends (ix ((2 * i4_17) + 1)))), (5, .int (ends (ix (2 * i4_17)))), (0, .ref a_t), (1, .int x1), (2, .int x2), (4, .int i4_17)]) rfl rfl rfl (by decide) rfl ?_
                        refine A_iinc K d_Model_comeApart 83 6 (pc' := 157) (v := i4_17 + 1) (lv' := [(4, .int (i4_17 + 1)), (3, .int 1), (6, .int (ends (ix ((2 * i4_17) + 1)))), (5, .int (ends (ix (2 * i4_17)))), (0, .ref a_t), (1, .int x1), (2, .int x2)]) rfl rfl rfl rfl (by decide) rfl ?_
                        refine A_goto K d_Model_comeApart 84 (pc' := 77) rfl rfl ?_
                        refine A_lv [4, 5, 6, 1, 0] rfl ?_
                        exact ih_19 _ _ h
        · intro J_12 hJ_13 h
          refine A_icmp_eq K d_Model_comeApart 25 72 (pc' := 52) rfl rfl rfl (fun q => ?_) (fun q => ?_)
          · replace h := h.1 q
            refine A_iconst K d_Model_comeApart 36 (pc' := 73) (v := 0) rfl rfl (by decide) ?_
            refine A_lv [0, 1, 2] rfl ?_
            exact hJ_13 _ h
          · replace h := h.2 q
            refine A_aload_n K d_Model_comeApart 26 0 (pc' := 53) rfl rfl rfl rfl ?_
            refine A_iload_n K d_Model_comeApart 27 1 (pc' := 54) rfl rfl rfl rfl ?_
            refine R_callV_i K d_Model_comeApart 28 [0, 1, 2] (As := [.int x1]) (rest := []) (pc' := 57) v_Model_88 ⟨rfl, rfl, Nat.le_trans (Nat.le_of_ble_eq_true rfl) hR1, Nat.le_trans (Nat.le_of_ble_eq_true rfl) hR2⟩ (fun sz => met_Model_isUsed l D cI cJ cZ a_t a_ends a_there a_one a_two a_what a_piece a_kinds a_group a_many a_pieceOf a_numberOf a_ups a_jointUp a_partner a_beyonds a_gone thrown_9 made ends there tree items pieces joints nodes x1 _ sz) h rfl rfl rfl rfl rfl rfl (Nat.le_of_ble_eq_true rfl) ⟨Nat.zero_le _, Nat.zero_le _⟩ (q0 := 0) rfl rfl (fun r_14 h => ?_)
            refine A_if_eq K d_Model_comeApart 29 72 (pc' := 60) rfl rfl rfl (fun q => ?_) (fun q => ?_)
            · replace h := h.1 q
              refine A_iconst K d_Model_comeApart 36 (pc' := 73) (v := 0) rfl rfl (by decide) ?_
              refine A_lv [0, 1, 2] rfl ?_
              exact hJ_13 _ h
            · replace h := h.2 q
              refine A_aload_n K d_Model_comeApart 30 0 (pc' := 61) rfl rfl rfl rfl ?_
              refine A_iload_n K d_Model_comeApart 31 2 (pc' := 62) rfl rfl rfl rfl ?_
              refine R_callV_i K d_Model_comeApart 32 [0, 1, 2] (As := [.int x2]) (rest := []) (pc' := 65) v_Model_88 ⟨rfl, rfl, Nat.le_trans (Nat.le_of_ble_eq_true rfl) hR1, Nat.le_trans (Nat.le_of_ble_eq_true rfl) hR2⟩ (fun sz => met_Model_isUsed l D cI cJ cZ a_t a_ends a_there a_one a_two a_what a_piece a_kinds a_group a_many a_pieceOf a_numberOf a_ups a_jointUp a_partner a_beyonds a_gone thrown_9 made ends there tree items pieces joints nodes x2 _ sz) h rfl rfl rfl rfl rfl rfl (Nat.le_of_ble_eq_true rfl) ⟨Nat.zero_le _, Nat.zero_le _⟩ (q0 := 0) rfl rfl (fun r_15 h => ?_)
              refine A_if_eq K d_Model_comeApart 33 72 (pc' := 68) rfl rfl rfl (fun q => ?_) (fun q => ?_)
              · replace h := h.1 q
                refine A_iconst K d_Model_comeApart 36 (pc' := 73) (v := 0) rfl rfl (by decide) ?_
                refine A_lv [0, 1, 2] rfl ?_
                exact hJ_13 _ h
              · replace h := h.2 q
                refine A_iconst K d_Model_comeApart 34 (pc' := 69) (v := 1) rfl rfl (by decide) ?_
                refine A_goto K d_Model_comeApart 35 (pc' := 73) rfl rfl ?_
                refine A_lv [0, 1, 2] rfl ?_
                exact hJ_13 _ h
      · replace h := h.2 q
        refine A_iconst K d_Model_comeApart 21 (pc' := 46) (v := 0) rfl rfl (by decide) ?_
        exact hend 22 _ _ _ _ _ rfl (Or.inl rfl) h
    · intro J_5 hJ_6 h
      refine A_if_eq K d_Model_comeApart 9 38 (pc' := 20) rfl rfl rfl (fun q => ?_) (fun q => ?_)
      · replace h := h.1 q
        refine A_iconst K d_Model_comeApart 18 (pc' := 39) (v := 0) rfl rfl (by decide) ?_
        refine A_lv [0, 1, 2] rfl ?_
        exact hJ_6 _ h
      · replace h := h.2 q
        refine A_iload_n K d_Model_comeApart 10 1 (pc' := 21) rfl rfl rfl rfl ?_
        refine R_callS_i K d_Model_comeApart 11 [] (As := [.int x1]) (rest := [.int z_1, .ref a_t]) (pc' := 24) v_Model_66 ⟨rfl, rfl, Nat.le_trans (Nat.le_of_ble_eq_true rfl) hR1, Nat.le_trans (Nat.le_of_ble_eq_true rfl) hR2⟩ (fun sz => met_Model_isPoint l D cI cJ cZ x1 _ sz) h rfl rfl rfl rfl rfl rfl (Nat.le_of_ble_eq_true rfl) ⟨Nat.zero_le _, Nat.zero_le _⟩ (fun r_7 h => ?_)
        refine A_if_eq K d_Model_comeApart 12 34 (pc' := 27) rfl rfl rfl (fun q => ?_) (fun q => ?_)
        · replace h := h.1 q
          refine A_iconst K d_Model_comeApart 16 (pc' := 35) (v := 1) rfl rfl (by decide) ?_
          refine A_goto K d_Model_comeApart 17 (pc' := 39) rfl rfl ?_
          refine A_lv [0, 1, 2] rfl ?_
          exact hJ_6 _ h
        · replace h := h.2 q
          refine A_iload_n K d_Model_comeApart 13 2 (pc' := 28) rfl rfl rfl rfl ?_
          refine R_callS_i K d_Model_comeApart 14 [] (As := [.int x2]) (rest := [.int z_1, .ref a_t]) (pc' := 31) v_Model_66 ⟨rfl, rfl, Nat.le_trans (Nat.le_of_ble_eq_true rfl) hR1, Nat.le_trans (Nat.le_of_ble_eq_true rfl) hR2⟩ (fun sz => met_Model_isPoint l D cI cJ cZ x2 _ sz) h rfl rfl rfl rfl rfl rfl (Nat.le_of_ble_eq_true rfl) ⟨Nat.zero_le _, Nat.zero_le _⟩ (fun r_8 h => ?_)
          refine A_if_ne K d_Model_comeApart 15 38 (pc' := 34) rfl rfl rfl (fun q => ?_) (fun q => ?_)
          · replace h := h.1 q
            refine A_iconst K d_Model_comeApart 18 (pc' := 39) (v := 0) rfl rfl (by decide) ?_
            refine A_lv [0, 1, 2] rfl ?_
            exact hJ_6 _ h
          · replace h := h.2 q
            refine A_iconst K d_Model_comeApart 16 (pc' := 35) (v := 1) rfl rfl (by decide) ?_
            refine A_goto K d_Model_comeApart 17 (pc' := 39) rfl rfl ?_
            refine A_lv [0, 1, 2] rfl ?_
            exact hJ_6 _ h
  · intro J_2 hJ_3 h
    refine A_if_ne K d_Model_comeApart 3 12 (pc' := 8) rfl rfl rfl (fun q => ?_) (fun q => ?_)
    · replace h := h.1 q
      refine A_iconst K d_Model_comeApart 6 (pc' := 13) (v := 0) rfl rfl (by decide) ?_
      refine A_lv [0, 1, 2] rfl ?_
      exact hJ_3 _ h
    · replace h := h.2 q
      refine A_iconst K d_Model_comeApart 4 (pc' := 9) (v := 1) rfl rfl (by decide) ?_
      refine A_goto K d_Model_comeApart 5 (pc' := 13) rfl rfl ?_
      refine A_lv [0, 1, 2] rfl ?_
      exact hJ_3 _ h
theorem met_Model_comeApart (l : Launch) (D : va_G) (cI cJ cZ : ClassId) (a_t a_ends a_there a_one a_two a_what a_piece a_kinds a_group a_many a_pieceOf a_numberOf a_ups a_jointUp a_partner a_beyonds a_gone : Nat) (thrown : Int32) (made : Int32) (ends : Nat → Int32) (there : Nat → Int32) (tree : Int32) (items : Int32) (pieces : Int32) (joints : Int32) (group : Nat → Int32) (nodes : Int32) (x1 : Int32) (x2 : Int32) (post : Int32 → Int32 → (Nat → Int32) → Prop) (sz : Nat) : Met l y_Model_comeApart (Cond.code y_Model_comeApart c_Model_comeApart 7 (Option.some Jvm.ClassFile.FieldType.boolean) :: GW) { frames := 2, cells := 0, slots := 0, locals := 50 } (va_Pc [.ref a_t, .int x1, .int x2] (fun U => sk_P D (tyl cI cJ cZ) (w_Model_comeApart cI cJ cZ a_t a_ends a_there a_one a_two a_what a_piece a_kinds a_group a_many a_pieceOf a_numberOf a_ups a_jointUp a_partner a_beyonds a_gone thrown made ends there tree items pieces joints group nodes) sz U ∧ wp_Model_comeApart thrown made ends there tree group x1 x2 post)) (va_Qi (fun (r : Int32) (u : Int32 × (Nat → Int32)) => post r u.1 u.2) (fun u t => sk_B D (tyl cI cJ cZ) (w_Model_comeApart cI cJ cZ a_t a_ends a_there a_one a_two a_what a_piece a_kinds a_group a_many a_pieceOf a_numberOf a_ups a_jointUp a_partner a_beyonds a_gone u.1 made ends there tree items pieces joints u.2 nodes) (va_A (w_Model_comeApart cI cJ cZ a_t a_ends a_there a_one a_two a_what a_piece a_kinds a_group a_many a_pieceOf a_numberOf a_ups a_jointUp a_partner a_beyonds a_gone thrown made ends there tree items pieces joints group nodes) sz) t) (va_A (w_Model_comeApart cI cJ cZ a_t a_ends a_there a_one a_two a_what a_piece a_kinds a_group a_many a_pieceOf a_numberOf a_ups a_jointUp a_partner a_beyonds a_gone thrown made ends there tree items pieces joints group nodes) sz)) 0 0 (va_A (w_Model_comeApart cI cJ cZ a_t a_ends a_there a_one a_two a_what a_piece a_kinds a_group a_many a_pieceOf a_numberOf a_ups a_jointUp a_partner a_beyonds a_gone thrown made ends there tree items pieces joints group nodes) sz) :=
  sk_intro (by decide) (Nat.le_of_ble_eq_true rfl) (fun p e s m below meth c K hr _ h => bd_Model_comeApart K (Nat.le_refl _) (Nat.le_refl _) (fun _ z => z) (fun ti pc r y0 y1 lv hd hb hp => A_zret K d_Model_comeApart ti hr (post := (fun (r : Int32) (u : Int32 × (Nat → Int32)) => post r u.1 u.2)) (wl := fun (u : Int32 × (Nat → Int32)) => w_Model_comeApart cI cJ cZ a_t a_ends a_there a_one a_two a_what a_piece a_kinds a_group a_many a_pieceOf a_numberOf a_ups a_jointUp a_partner a_beyonds a_gone u.1 made ends there tree items pieces joints u.2 nodes) (y0, y1) hd hb hp) h)
