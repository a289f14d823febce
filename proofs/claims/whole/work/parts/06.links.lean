abbrev c_Links_clear : ByteArray := prog_2_method_2_code
abbrev y_Links_clear : MethodName := { cls := "SkeletonTree$Links", name := "clear", desc := "()V" }
abbrev c_Links_link : ByteArray := prog_2_method_3_code
abbrev y_Links_link : MethodName := { cls := "SkeletonTree$Links", name := "link", desc := "(II)V" }
abbrev c_Links_reach : ByteArray := prog_2_method_4_code
abbrev y_Links_reach : MethodName := { cls := "SkeletonTree$Links", name := "reach", desc := "(J)J" }
abbrev c_Links_holdTogether : ByteArray := prog_2_method_5_code
abbrev y_Links_holdTogether : MethodName := { cls := "SkeletonTree$Links", name := "holdTogether", desc := "()Z" }
abbrev c_Links_comeApartAt : ByteArray := prog_2_method_6_code
abbrev y_Links_comeApartAt : MethodName := { cls := "SkeletonTree$Links", name := "comeApartAt", desc := "(II)Z" }
theorem g_76 : (Jvm.Cond.fieldLink "SkeletonTree$Links" (9 : Nat) "SkeletonTree$Links" "near" "[J") ∈ GW := gw_of 76 (by decide +kernel) (by decide +kernel)
theorem g_253 : (Jvm.Cond.code ({ cls := "java/util/Arrays", name := "fill", desc := "([JJ)V" } : Jvm.MethodName) prog_17_method_101_code (5 : Nat) (Option.none : Option Jvm.ClassFile.FieldType)) ∈ GW := gw_of 253 (by decide +kernel) (by decide +kernel)
theorem g_251 : (Jvm.Cond.methodLink "SkeletonTree$Links" (22 : Nat) ({ cls := "java/util/Arrays", name := "fill", desc := "([JJ)V" } : Jvm.MethodName)) ∈ GW := gw_of 251 (by decide +kernel) (by decide +kernel)
theorem g_58 : (Jvm.Cond.initialized "java/util/Arrays") ∈ GW := gw_of 58 (by decide +kernel) (by decide +kernel)
theorem g_252 : (Jvm.Cond.static ({ cls := "java/util/Arrays", name := "fill", desc := "([JJ)V" } : Jvm.MethodName)) ∈ GW := gw_of 252 (by decide +kernel) (by decide +kernel)
theorem g_78 : (Jvm.Cond.fieldLink "SkeletonTree$Links" (15 : Nat) "SkeletonTree$Links" "nearTwice" "[J") ∈ GW := gw_of 78 (by decide +kernel) (by decide +kernel)
theorem g_79 : (Jvm.Cond.fieldLink "SkeletonTree$Links" (18 : Nat) "SkeletonTree$Links" "present" "J") ∈ GW := gw_of 79 (by decide +kernel) (by decide +kernel)
theorem g_258 : (Jvm.Cond.methodLinkNest "SkeletonTree$Links" (28 : Nat) ({ cls := "SkeletonTree", name := "only", desc := "(I)J" } : Jvm.MethodName) "SkeletonTree") ∈ NW := nw_of 258 (by decide +kernel) (by decide +kernel)
theorem g_271 : (Jvm.Cond.code ({ cls := "java/lang/Long", name := "bitCount", desc := "(J)I" } : Jvm.MethodName) prog_12_method_50_code (2 : Nat) (Option.some Jvm.ClassFile.FieldType.int)) ∈ GW := gw_of 271 (by decide +kernel) (by decide +kernel)
theorem g_269 : (Jvm.Cond.methodLink "SkeletonTree$Links" (32 : Nat) ({ cls := "java/lang/Long", name := "bitCount", desc := "(J)I" } : Jvm.MethodName)) ∈ GW := gw_of 269 (by decide +kernel) (by decide +kernel)
theorem g_59 : (Jvm.Cond.initialized "java/lang/Long") ∈ GW := gw_of 59 (by decide +kernel) (by decide +kernel)
theorem g_270 : (Jvm.Cond.static ({ cls := "java/lang/Long", name := "bitCount", desc := "(J)I" } : Jvm.MethodName)) ∈ GW := gw_of 270 (by decide +kernel) (by decide +kernel)
theorem g_275 : (Jvm.Cond.constantLong "SkeletonTree$Links" (38 : Nat) (-1 : Int64)) ∈ GW := gw_of 275 (by decide +kernel) (by decide +kernel)
theorem g_268 : (Jvm.Cond.code ({ cls := "SkeletonTree$Links", name := "reach", desc := "(J)J" } : Jvm.MethodName) prog_2_method_4_code (12 : Nat) (Option.some Jvm.ClassFile.FieldType.long)) ∈ GW := gw_of 268 (by decide +kernel) (by decide +kernel)
theorem g_265 : (Jvm.Cond.methodLink "SkeletonTree$Links" (40 : Nat) ({ cls := "SkeletonTree$Links", name := "reach", desc := "(J)J" } : Jvm.MethodName)) ∈ GW := gw_of 265 (by decide +kernel) (by decide +kernel)
theorem g_48 : (Jvm.Cond.initialized "SkeletonTree$Links") ∈ GW := gw_of 48 (by decide +kernel) (by decide +kernel)
theorem g_266 : (Jvm.Cond.instanceMethod ({ cls := "SkeletonTree$Links", name := "reach", desc := "(J)J" } : Jvm.MethodName)) ∈ GW := gw_of 266 (by decide +kernel) (by decide +kernel)
theorem g_267 : (Jvm.Cond.selects "SkeletonTree$Links" ({ cls := "SkeletonTree$Links", name := "reach", desc := "(J)J" } : Jvm.MethodName) ({ cls := "SkeletonTree$Links", name := "reach", desc := "(J)J" } : Jvm.MethodName)) ∈ GW := gw_of 267 (by decide +kernel) (by decide +kernel)
theorem g_307 : (Jvm.Cond.code ({ cls := "SkeletonTree", name := "holds", desc := "(JI)Z" } : Jvm.MethodName) prog_1_method_24_code (3 : Nat) (Option.some Jvm.ClassFile.FieldType.boolean)) ∈ GW := gw_of 307 (by decide +kernel) (by decide +kernel)
theorem g_317 : (Jvm.Cond.methodLinkNest "SkeletonTree$Links" (44 : Nat) ({ cls := "SkeletonTree", name := "holds", desc := "(JI)Z" } : Jvm.MethodName) "SkeletonTree") ∈ NW := nw_of 317 (by decide +kernel) (by decide +kernel)
theorem g_306 : (Jvm.Cond.static ({ cls := "SkeletonTree", name := "holds", desc := "(JI)Z" } : Jvm.MethodName)) ∈ GW := gw_of 306 (by decide +kernel) (by decide +kernel)
theorem fl_Links_9 : sk_Fl "SkeletonTree$Links" 9 0 0 := ⟨_, _, _, rfl, in_Links, by decide, g_76⟩
theorem fl_Links_15 : sk_Fl "SkeletonTree$Links" 15 0 1 := ⟨_, _, _, rfl, in_Links, by decide, g_78⟩
theorem fp_Links_18 : sk_Fp "SkeletonTree$Links" 18 0 2 .long := ⟨_, _, _, t_Links, rfl, in_Links, by decide, g_79, ty_Links, nm_Links, rfl, by decide +kernel⟩
theorem fl_Links_18 : sk_Fl "SkeletonTree$Links" 18 0 2 := ⟨_, _, _, rfl, in_Links, by decide, g_79⟩
theorem v_Links_22 : sk_S "SkeletonTree$Links" 22 y_Arrays_fillJ c_Arrays_fillJ 5 (Option.none : Option Jvm.ClassFile.FieldType) 2 := ⟨g_253, g_251, g_252, g_58, by decide +kernel⟩
theorem v_Links_28 : sk_SN "SkeletonTree$Links" 28 y_Tree_only c_Tree_only 1 (Option.some Jvm.ClassFile.FieldType.long) 1 := ⟨"SkeletonTree", g_260, g_258, g_259, g_47, by decide +kernel⟩
theorem v_Links_32 : sk_S "SkeletonTree$Links" 32 y_Long_bitCount c_Long_bitCount 2 (Option.some Jvm.ClassFile.FieldType.int) 1 := ⟨g_271, g_269, g_270, g_59, by decide +kernel⟩
theorem v_Links_40 : sk_V "SkeletonTree$Links" 40 y_Links_reach c_Links_reach 12 (Option.some Jvm.ClassFile.FieldType.long) 1 "SkeletonTree$Links" := ⟨g_268, g_265, g_266, g_267, g_48, by decide +kernel⟩
theorem v_Links_44 : sk_SN "SkeletonTree$Links" 44 y_Tree_holds c_Tree_holds 3 (Option.some Jvm.ClassFile.FieldType.boolean) 2 := ⟨"SkeletonTree", g_307, g_317, g_306, g_47, by decide +kernel⟩
/-! SkeletonTree$Links.clear()V -/
def t_Links_clear : List (Nat × Instr × Nat) := [(0, .aload_n 0, 1), (1, .getfield 9, 3), (4, .lconst 0, 1), (5, .invokestatic 22, 3), (8, .aload_n 0, 1), (9, .getfield 15, 3), (12, .lconst 0, 1), (13, .invokestatic 22, 3), (16, .aload_n 0, 1), (17, .lconst 0, 1), (18, .putfield 18, 3), (21, .return_, 1)]
set_option maxRecDepth 100000 in
theorem d_Links_clear : sk_T c_Links_clear t_Links_clear := by unfold sk_T t_Links_clear; decide +kernel
def w_Links_clear (cI cJ cZ : ClassId) (a_t a_near a_nearTwice : Nat) (near : Nat → Int64) (nearTwice : Nat → Int64) (present : Int64) : va_W := [(a_t, .inr (0, [.ref a_near, .ref a_nearTwice, .long present])), (a_near, .inl (cJ, 40, .inr (.inl near))), (a_nearTwice, .inl (cJ, 40, .inr (.inl nearTwice)))]
def wp_Links_clear  (near : Nat → Int64) (nearTwice : Nat → Int64) (present : Int64)  (post : (Nat → Int64) → (Nat → Int64) → Int64 → Prop) : Prop :=
  wp_Arrays_fillJ 40 near 0 (fun near_1 => wp_Arrays_fillJ 40 nearTwice 0 (fun nearTwice_2 => post near_1 nearTwice_2 0))
set_option maxHeartbeats 4000000 in
set_option maxRecDepth 100000 in
theorem bd_Links_clear {p : Program} {l : Launch} {e : Env} {R : Room} {s : State} {m : MethodId} {args : Array Value} {below : List Frame} {meth : Method} {c : Code} {D : va_G} {A B : Nat → Prop} {Q : State → Prop} {cI cJ cZ : ClassId} {a_t a_near a_nearTwice : Nat} {near : Nat → Int64} {nearTwice : Nat → Int64} {present : Int64}  (K : sk_C p s m args meth c c_Links_clear 1 "SkeletonTree$Links" D (tyl cI cJ cZ)) (hR1 : 1 ≤ R.frames) (hR2 : 24 ≤ R.locals) (hBA : ∀ q : Nat, B q → A q) {post : (Nat → Int64) → (Nat → Int64) → Int64 → Prop} (hend : ∀ (ti pc : Nat)  (y0 : Nat → Int64) (y1 : Nat → Int64) (y2 : Int64) (lv : List (Nat × Value)), t_Links_clear[ti]? = some (pc, .return_, 1) → post  y0 y1 y2 → AW p l e R s m args below meth c D A B 1 Q 0 0 (w_Links_clear cI cJ cZ a_t a_near a_nearTwice y0 y1 y2) lv pc []) (h : wp_Links_clear near nearTwice present post) : AW p l e R s m args below meth c D A B 1 Q 0 0 (w_Links_clear cI cJ cZ a_t a_near a_nearTwice near nearTwice present) [(0, .ref a_t)] 0 [] := by
  unfold wp_Links_clear at h
  refine A_aload_n K d_Links_clear 0 0 (pc' := 1) rfl rfl rfl rfl ?_
  refine A_get K d_Links_clear 1 0 fl_Links_9 (pc' := 4) rfl rfl rfl rfl ?_
  refine A_lconst K d_Links_clear 2 (pc' := 5) (v := 0) rfl rfl (by decide) ?_
  refine C_Sv1 K hBA d_Links_clear 3 [1] [none, some 0, none] (As := [.ref a_near, .long 0]) (rest := []) (pc' := 8) (wl := fun near_1 => w_Arrays_fillJ cI cJ cZ a_near 40 near_1) (ws' := fun near_1 => w_Links_clear cI cJ cZ a_t a_near a_nearTwice near_1 nearTwice present) v_Links_22 ⟨rfl, rfl, Nat.le_trans (Nat.le_of_ble_eq_true rfl) hR1, Nat.le_trans (Nat.le_of_ble_eq_true rfl) hR2⟩ (fun sz => met_Arrays_fillJ l D cI cJ cZ a_near 40 near 0 _ sz) h rfl rfl rfl rfl rfl (fun _ => rfl) rfl (by decide) (Nat.le_of_ble_eq_true rfl) ⟨Nat.zero_le _, Nat.zero_le _⟩ (fun _ => rfl) (fun near_1 h => ?_)
  refine A_aload_n K d_Links_clear 4 0 (pc' := 9) rfl rfl rfl rfl ?_
  refine A_get K d_Links_clear 5 0 fl_Links_15 (pc' := 12) rfl rfl rfl rfl ?_
  refine A_lconst K d_Links_clear 6 (pc' := 13) (v := 0) rfl rfl (by decide) ?_
  refine C_Sv1 K hBA d_Links_clear 7 [2] [none, none, some 0] (As := [.ref a_nearTwice, .long 0]) (rest := []) (pc' := 16) (wl := fun nearTwice_2 => w_Arrays_fillJ cI cJ cZ a_nearTwice 40 nearTwice_2) (ws' := fun nearTwice_2 => w_Links_clear cI cJ cZ a_t a_near a_nearTwice near_1 nearTwice_2 present) v_Links_22 ⟨rfl, rfl, Nat.le_trans (Nat.le_of_ble_eq_true rfl) hR1, Nat.le_trans (Nat.le_of_ble_eq_true rfl) hR2⟩ (fun sz => met_Arrays_fillJ l D cI cJ cZ a_nearTwice 40 nearTwice 0 _ sz) h rfl rfl rfl rfl rfl (fun _ => rfl) rfl (by decide) (Nat.le_of_ble_eq_true rfl) ⟨Nat.zero_le _, Nat.zero_le _⟩ (fun _ => rfl) (fun nearTwice_2 h => ?_)
  refine A_aload_n K d_Links_clear 8 0 (pc' := 17) rfl rfl rfl rfl ?_
  refine A_lconst K d_Links_clear 9 (pc' := 18) (v := 0) rfl rfl (by decide) ?_
  refine A_put K hBA d_Links_clear 10 0 fp_Links_18 (pc' := 21) (ws' := w_Links_clear cI cJ cZ a_t a_near a_nearTwice near_1 nearTwice_2 0) rfl rfl rfl (Nat.le_of_ble_eq_true rfl) rfl rfl rfl ?_
  exact hend 11 _ _ _ _ _ rfl h
theorem met_Links_clear (l : Launch) (D : va_G) (cI cJ cZ : ClassId) (a_t a_near a_nearTwice : Nat) (near : Nat → Int64) (nearTwice : Nat → Int64) (present : Int64)  (post : (Nat → Int64) → (Nat → Int64) → Int64 → Prop) (sz : Nat) : Met l y_Links_clear (Cond.code y_Links_clear c_Links_clear 1 (Option.none : Option Jvm.ClassFile.FieldType) :: GW) { frames := 1, cells := 0, slots := 0, locals := 24 } (va_Pc [.ref a_t] (fun U => sk_P D (tyl cI cJ cZ) (w_Links_clear cI cJ cZ a_t a_near a_nearTwice near nearTwice present) sz U ∧ wp_Links_clear near nearTwice present post)) (va_Qv (fun (u : (Nat → Int64) × (Nat → Int64) × Int64) => post  u.1 u.2.1 u.2.2) (fun u t => sk_B D (tyl cI cJ cZ) (w_Links_clear cI cJ cZ a_t a_near a_nearTwice u.1 u.2.1 u.2.2) (va_A (w_Links_clear cI cJ cZ a_t a_near a_nearTwice near nearTwice present) sz) t) (va_A (w_Links_clear cI cJ cZ a_t a_near a_nearTwice near nearTwice present) sz)) 0 0 (va_A (w_Links_clear cI cJ cZ a_t a_near a_nearTwice near nearTwice present) sz) :=
  sk_intro (by decide) (Nat.le_of_ble_eq_true rfl) (fun p e s m below meth c K hr _ h => bd_Links_clear K (Nat.le_refl _) (Nat.le_refl _) (fun _ z => z) (fun ti pc y0 y1 y2 lv hd hp => A_vret K d_Links_clear ti hr (post := (fun (u : (Nat → Int64) × (Nat → Int64) × Int64) => post  u.1 u.2.1 u.2.2)) (wl := fun (u : (Nat → Int64) × (Nat → Int64) × Int64) => w_Links_clear cI cJ cZ a_t a_near a_nearTwice u.1 u.2.1 u.2.2) (y0, y1, y2) hd hp) h)
/-! SkeletonTree$Links.link(II)V -/
def t_Links_link : List (Nat × Instr × Nat) := [(0, .aload_n 0, 1), (1, .getfield 15, 3), (4, .iload_n 1, 1), (5, .dup2, 1), (6, .laload, 1), (7, .aload_n 0, 1), (8, .getfield 9, 3), (11, .iload_n 1, 1), (12, .laload, 1), (13, .iload_n 2, 1), (14, .invokestatic 28, 3), (17, .land, 1), (18, .lor, 1), (19, .lastore, 1), (20, .aload_n 0, 1), (21, .getfield 15, 3), (24, .iload_n 2, 1), (25, .dup2, 1), (26, .laload, 1), (27, .aload_n 0, 1), (28, .getfield 9, 3), (31, .iload_n 2, 1), (32, .laload, 1), (33, .iload_n 1, 1), (34, .invokestatic 28, 3), (37, .land, 1), (38, .lor, 1), (39, .lastore, 1), (40, .aload_n 0, 1), (41, .getfield 9, 3), (44, .iload_n 1, 1), (45, .dup2, 1), (46, .laload, 1), (47, .iload_n 2, 1), (48, .invokestatic 28, 3), (51, .lor, 1), (52, .lastore, 1), (53, .aload_n 0, 1), (54, .getfield 9, 3), (57, .iload_n 2, 1), (58, .dup2, 1), (59, .laload, 1), (60, .iload_n 1, 1), (61, .invokestatic 28, 3), (64, .lor, 1), (65, .lastore, 1), (66, .aload_n 0, 1), (67, .dup, 1), (68, .getfield 18, 3), (71, .iload_n 1, 1), (72, .invokestatic 28, 3), (75, .iload_n 2, 1), (76, .invokestatic 28, 3), (79, .lor, 1), (80, .lor, 1), (81, .putfield 18, 3), (84, .return_, 1)]
set_option maxRecDepth 100000 in
theorem d_Links_link : sk_T c_Links_link t_Links_link := by unfold sk_T t_Links_link; decide +kernel
def w_Links_link (cI cJ cZ : ClassId) (a_t a_near a_nearTwice : Nat) (near : Nat → Int64) (nearTwice : Nat → Int64) (present : Int64) : va_W := [(a_t, .inr (0, [.ref a_near, .ref a_nearTwice, .long present])), (a_near, .inl (cJ, 40, .inr (.inl near))), (a_nearTwice, .inl (cJ, 40, .inr (.inl nearTwice)))]
def wp_Links_link  (near : Nat → Int64) (nearTwice : Nat → Int64) (present : Int64) (x1 : Int32) (x2 : Int32) (post : (Nat → Int64) → (Nat → Int64) → Int64 → Prop) : Prop :=
  vp_in x1 40 ∧ vp_in x1 40 ∧ wp_Tree_only x2 (fun r_1 => ∀ x_2 : Int64, x_2 = (nearTwice (ix x1)) ||| ((near (ix x1)) &&& r_1) → vp_in x1 40 ∧ ∀ nearTwice_4 : Nat → Int64, nearTwice_4 = vp_updL nearTwice (ix x1) x_2 → vp_in x2 40 ∧ vp_in x2 40 ∧ wp_Tree_only x1 (fun r_6 => ∀ x_7 : Int64, x_7 = (nearTwice_4 (ix x2)) ||| ((near (ix x2)) &&& r_6) → vp_in x2 40 ∧ ∀ nearTwice_9 : Nat → Int64, nearTwice_9 = vp_updL nearTwice_4 (ix x2) x_7 → vp_in x1 40 ∧ wp_Tree_only x2 (fun r_11 => vp_in x1 40 ∧ ∀ near_12 : Nat → Int64, near_12 = vp_updL near (ix x1) ((near (ix x1)) ||| r_11) → vp_in x2 40 ∧ wp_Tree_only x1 (fun r_14 => vp_in x2 40 ∧ ∀ near_15 : Nat → Int64, near_15 = vp_updL near_12 (ix x2) ((near_12 (ix x2)) ||| r_14) → wp_Tree_only x1 (fun r_17 => wp_Tree_only x2 (fun r_18 => post near_15 nearTwice_9 (present ||| (r_17 ||| r_18))))))))
set_option maxHeartbeats 4000000 in
set_option maxRecDepth 100000 in
theorem bd_Links_link {p : Program} {l : Launch} {e : Env} {R : Room} {s : State} {m : MethodId} {args : Array Value} {below : List Frame} {meth : Method} {c : Code} {D : va_G} {A B : Nat → Prop} {Q : State → Prop} {cI cJ cZ : ClassId} {a_t a_near a_nearTwice : Nat} {near : Nat → Int64} {nearTwice : Nat → Int64} {present : Int64} {x1 : Int32} {x2 : Int32} (K : sk_C p s m args meth c c_Links_link 3 "SkeletonTree$Links" D (tyl cI cJ cZ)) (hR1 : 1 ≤ R.frames) (hR2 : 20 ≤ R.locals) (hBA : ∀ q : Nat, B q → A q) {post : (Nat → Int64) → (Nat → Int64) → Int64 → Prop} (hend : ∀ (ti pc : Nat)  (y0 : Nat → Int64) (y1 : Nat → Int64) (y2 : Int64) (lv : List (Nat × Value)), t_Links_link[ti]? = some (pc, .return_, 1) → post  y0 y1 y2 → AW p l e R s m args below meth c D A B 3 Q 0 0 (w_Links_link cI cJ cZ a_t a_near a_nearTwice y0 y1 y2) lv pc []) (h : wp_Links_link near nearTwice present x1 x2 post) : AW p l e R s m args below meth c D A B 3 Q 0 0 (w_Links_link cI cJ cZ a_t a_near a_nearTwice near nearTwice present) [(0, .ref a_t), (1, .int x1), (2, .int x2)] 0 [] := by
  unfold wp_Links_link at h
  refine A_aload_n K d_Links_link 0 0 (pc' := 1) rfl rfl rfl rfl ?_
  refine A_get K d_Links_link 1 0 fl_Links_15 (pc' := 4) rfl rfl rfl rfl ?_
  refine A_iload_n K d_Links_link 2 1 (pc' := 5) rfl rfl rfl rfl ?_
  refine A_dup2 K d_Links_link 3 (pc' := 6) rfl rfl rfl rfl ?_
  refine A_lald K d_Links_link 4 2 1 (pc' := 7) rfl rfl rfl rfl h.1 ?_
  replace h := h.2
  refine A_aload_n K d_Links_link 5 0 (pc' := 8) rfl rfl rfl rfl ?_
  refine A_get K d_Links_link 6 0 fl_Links_9 (pc' := 11) rfl rfl rfl rfl ?_
  refine A_iload_n K d_Links_link 7 1 (pc' := 12) rfl rfl rfl rfl ?_
  refine A_lald K d_Links_link 8 1 1 (pc' := 13) rfl rfl rfl rfl h.1 ?_
  replace h := h.2
  refine A_iload_n K d_Links_link 9 2 (pc' := 14) rfl rfl rfl rfl ?_
  refine R_callSN_l K d_Links_link 10 [] (As := [.int x2]) (rest := [.long (near (ix x1)), .long (nearTwice (ix x1)), .int x1, .ref a_nearTwice]) (pc' := 17) v_Links_28 ⟨rfl, rfl, Nat.le_trans (Nat.le_of_ble_eq_true rfl) hR1, Nat.le_trans (Nat.le_of_ble_eq_true rfl) hR2⟩ (fun sz => met_Tree_only l D cI cJ cZ x2 _ sz) h rfl rfl rfl rfl rfl rfl (Nat.le_of_ble_eq_true rfl) ⟨Nat.zero_le _, Nat.zero_le _⟩ (fun r_1 h => ?_)
  refine A_land K d_Links_link 11 (pc' := 18) rfl rfl ?_
  refine A_lor K d_Links_link 12 (pc' := 19) rfl rfl ?_
  refine A_topl (fun x_2 e_3 => ?_)
  replace h := h x_2 e_3
  refine A_lastN K hBA d_Links_link 13 2 1 (pc' := 20) (ws' := fun nearTwice_4 => w_Links_link cI cJ cZ a_t a_near a_nearTwice near nearTwice_4 present) rfl rfl rfl rfl h.1 (fun _ => rfl) (fun nearTwice_4 e_5 => ?_)
  replace h := h.2 nearTwice_4 e_5
  refine A_aload_n K d_Links_link 14 0 (pc' := 21) rfl rfl rfl rfl ?_
  refine A_get K d_Links_link 15 0 fl_Links_15 (pc' := 24) rfl rfl rfl rfl ?_
  refine A_iload_n K d_Links_link 16 2 (pc' := 25) rfl rfl rfl rfl ?_
  refine A_dup2 K d_Links_link 17 (pc' := 26) rfl rfl rfl rfl ?_
  refine A_lald K d_Links_link 18 2 1 (pc' := 27) rfl rfl rfl rfl h.1 ?_
  replace h := h.2
  refine A_aload_n K d_Links_link 19 0 (pc' := 28) rfl rfl rfl rfl ?_
  refine A_get K d_Links_link 20 0 fl_Links_9 (pc' := 31) rfl rfl rfl rfl ?_
  refine A_iload_n K d_Links_link 21 2 (pc' := 32) rfl rfl rfl rfl ?_
  refine A_lald K d_Links_link 22 1 1 (pc' := 33) rfl rfl rfl rfl h.1 ?_
  replace h := h.2
  refine A_iload_n K d_Links_link 23 1 (pc' := 34) rfl rfl rfl rfl ?_
  refine R_callSN_l K d_Links_link 24 [] (As := [.int x1]) (rest := [.long (near (ix x2)), .long (nearTwice_4 (ix x2)), .int x2, .ref a_nearTwice]) (pc' := 37) v_Links_28 ⟨rfl, rfl, Nat.le_trans (Nat.le_of_ble_eq_true rfl) hR1, Nat.le_trans (Nat.le_of_ble_eq_true rfl) hR2⟩ (fun sz => met_Tree_only l D cI cJ cZ x1 _ sz) h rfl rfl rfl rfl rfl rfl (Nat.le_of_ble_eq_true rfl) ⟨Nat.zero_le _, Nat.zero_le _⟩ (fun r_6 h => ?_)
  refine A_land K d_Links_link 25 (pc' := 38) rfl rfl ?_
  refine A_lor K d_Links_link 26 (pc' := 39) rfl rfl ?_
  refine A_topl (fun x_7 e_8 => ?_)
  replace h := h x_7 e_8
  refine A_lastN K hBA d_Links_link 27 2 1 (pc' := 40) (ws' := fun nearTwice_9 => w_Links_link cI cJ cZ a_t a_near a_nearTwice near nearTwice_9 present) rfl rfl rfl rfl h.1 (fun _ => rfl) (fun nearTwice_9 e_10 => ?_)
  replace h := h.2 nearTwice_9 e_10
  refine A_aload_n K d_Links_link 28 0 (pc' := 41) rfl rfl rfl rfl ?_
  refine A_get K d_Links_link 29 0 fl_Links_9 (pc' := 44) rfl rfl rfl rfl ?_
  refine A_iload_n K d_Links_link 30 1 (pc' := 45) rfl rfl rfl rfl ?_
  refine A_dup2 K d_Links_link 31 (pc' := 46) rfl rfl rfl rfl ?_
  refine A_lald K d_Links_link 32 1 1 (pc' := 47) rfl rfl rfl rfl h.1 ?_
  replace h := h.2
  refine A_iload_n K d_Links_link 33 2 (pc' := 48) rfl rfl rfl rfl ?_
  refine R_callSN_l K d_Links_link 34 [] (As := [.int x2]) (rest := [.long (near (ix x1)), .int x1, .ref a_near]) (pc' := 51) v_Links_28 ⟨rfl, rfl, Nat.le_trans (Nat.le_of_ble_eq_true rfl) hR1, Nat.le_trans (Nat.le_of_ble_eq_true rfl) hR2⟩ (fun sz => met_Tree_only l D cI cJ cZ x2 _ sz) h rfl rfl rfl rfl rfl rfl (Nat.le_of_ble_eq_true rfl) ⟨Nat.zero_le _, Nat.zero_le _⟩ (fun r_11 h => ?_)
  refine A_lor K d_Links_link 35 (pc' := 52) rfl rfl ?_
  refine A_lastN K hBA d_Links_link 36 1 1 (pc' := 53) (ws' := fun near_12 => w_Links_link cI cJ cZ a_t a_near a_nearTwice near_12 nearTwice_9 present) rfl rfl rfl rfl h.1 (fun _ => rfl) (fun near_12 e_13 => ?_)
  replace h := h.2 near_12 e_13
  refine A_aload_n K d_Links_link 37 0 (pc' := 54) rfl rfl rfl rfl ?_
  refine A_get K d_Links_link 38 0 fl_Links_9 (pc' := 57) rfl rfl rfl rfl ?_
  refine A_iload_n K d_Links_link 39 2 (pc' := 58) rfl rfl rfl rfl ?_
  refine A_dup2 K d_Links_link 40 (pc' := 59) rfl rfl rfl rfl ?_
  refine A_lald K d_Links_link 41 1 1 (pc' := 60) rfl rfl rfl rfl h.1 ?_
  replace h := h.2
  refine A_iload_n K d_Links_link 42 1 (pc' := 61) rfl rfl rfl rfl ?_
  refine R_callSN_l K d_Links_link 43 [] (As := [.int x1]) (rest := [.long (near_12 (ix x2)), .int x2, .ref a_near]) (pc' := 64) v_Links_28 ⟨rfl, rfl, Nat.le_trans (Nat.le_of_ble_eq_true rfl) hR1, Nat.le_trans (Nat.le_of_ble_eq_true rfl) hR2⟩ (fun sz => met_Tree_only l D cI cJ cZ x1 _ sz) h rfl rfl rfl rfl rfl rfl (Nat.le_of_ble_eq_true rfl) ⟨Nat.zero_le _, Nat.zero_le _⟩ (fun r_14 h => ?_)
  refine A_lor K d_Links_link 44 (pc' := 65) rfl rfl ?_
  refine A_lastN K hBA d_Links_link 45 1 1 (pc' := 66) (ws' := fun near_15 => w_Links_link cI cJ cZ a_t a_near a_nearTwice near_15 nearTwice_9 present) rfl rfl rfl rfl h.1 (fun _ => rfl) (fun near_15 e_16 => ?_)
  replace h := h.2 near_15 e_16
  refine A_aload_n K d_Links_link 46 0 (pc' := 67) rfl rfl rfl rfl ?_
  refine A_dup K d_Links_link 47 (pc' := 68) rfl rfl rfl ?_
  refine A_get K d_Links_link 48 0 fl_Links_18 (pc' := 71) rfl rfl rfl rfl ?_
  refine A_iload_n K d_Links_link 49 1 (pc' := 72) rfl rfl rfl rfl ?_
  refine R_callSN_l K d_Links_link 50 [] (As := [.int x1]) (rest := [.long present, .ref a_t]) (pc' := 75) v_Links_28 ⟨rfl, rfl, Nat.le_trans (Nat.le_of_ble_eq_true rfl) hR1, Nat.le_trans (Nat.le_of_ble_eq_true rfl) hR2⟩ (fun sz => met_Tree_only l D cI cJ cZ x1 _ sz) h rfl rfl rfl rfl rfl rfl (Nat.le_of_ble_eq_true rfl) ⟨Nat.zero_le _, Nat.zero_le _⟩ (fun r_17 h => ?_)
  refine A_iload_n K d_Links_link 51 2 (pc' := 76) rfl rfl rfl rfl ?_
  refine R_callSN_l K d_Links_link 52 [] (As := [.int x2]) (rest := [.long r_17, .long present, .ref a_t]) (pc' := 79) v_Links_28 ⟨rfl, rfl, Nat.le_trans (Nat.le_of_ble_eq_true rfl) hR1, Nat.le_trans (Nat.le_of_ble_eq_true rfl) hR2⟩ (fun sz => met_Tree_only l D cI cJ cZ x2 _ sz) h rfl rfl rfl rfl rfl rfl (Nat.le_of_ble_eq_true rfl) ⟨Nat.zero_le _, Nat.zero_le _⟩ (fun r_18 h => ?_)
  refine A_lor K d_Links_link 53 (pc' := 80) rfl rfl ?_
  refine A_lor K d_Links_link 54 (pc' := 81) rfl rfl ?_
  refine A_put K hBA d_Links_link 55 0 fp_Links_18 (pc' := 84) (ws' := w_Links_link cI cJ cZ a_t a_near a_nearTwice near_15 nearTwice_9 (present ||| (r_17 ||| r_18))) rfl rfl rfl (Nat.le_of_ble_eq_true rfl) rfl rfl rfl ?_
  exact hend 56 _ _ _ _ _ rfl h
theorem met_Links_link (l : Launch) (D : va_G) (cI cJ cZ : ClassId) (a_t a_near a_nearTwice : Nat) (near : Nat → Int64) (nearTwice : Nat → Int64) (present : Int64) (x1 : Int32) (x2 : Int32) (post : (Nat → Int64) → (Nat → Int64) → Int64 → Prop) (sz : Nat) : Met l y_Links_link (Cond.code y_Links_link c_Links_link 3 (Option.none : Option Jvm.ClassFile.FieldType) :: GW) { frames := 1, cells := 0, slots := 0, locals := 20 } (va_Pc [.ref a_t, .int x1, .int x2] (fun U => sk_P D (tyl cI cJ cZ) (w_Links_link cI cJ cZ a_t a_near a_nearTwice near nearTwice present) sz U ∧ wp_Links_link near nearTwice present x1 x2 post)) (va_Qv (fun (u : (Nat → Int64) × (Nat → Int64) × Int64) => post  u.1 u.2.1 u.2.2) (fun u t => sk_B D (tyl cI cJ cZ) (w_Links_link cI cJ cZ a_t a_near a_nearTwice u.1 u.2.1 u.2.2) (va_A (w_Links_link cI cJ cZ a_t a_near a_nearTwice near nearTwice present) sz) t) (va_A (w_Links_link cI cJ cZ a_t a_near a_nearTwice near nearTwice present) sz)) 0 0 (va_A (w_Links_link cI cJ cZ a_t a_near a_nearTwice near nearTwice present) sz) :=
  sk_intro (by decide) (Nat.le_of_ble_eq_true rfl) (fun p e s m below meth c K hr _ h => bd_Links_link K (Nat.le_refl _) (Nat.le_refl _) (fun _ z => z) (fun ti pc y0 y1 y2 lv hd hp => A_vret K d_Links_link ti hr (post := (fun (u : (Nat → Int64) × (Nat → Int64) × Int64) => post  u.1 u.2.1 u.2.2)) (wl := fun (u : (Nat → Int64) × (Nat → Int64) × Int64) => w_Links_link cI cJ cZ a_t a_near a_nearTwice u.1 u.2.1 u.2.2) (y0, y1, y2) hd hp) h)
/-! SkeletonTree$Links.reach(J)J -/
def t_Links_reach : List (Nat × Instr × Nat) := [(0, .lload_n 1, 1), (1, .lload_n 1, 1), (2, .lneg, 1), (3, .land, 1), (4, .lstore_n 3, 1), (5, .lload_n 3, 1), (6, .lstore 5, 2), (8, .iconst 0, 1), (9, .istore 7, 2), (11, .iload 7, 2), (13, .bipush 40, 2), (15, .if_icmp .ge 71, 3), (18, .lload 5, 2), (20, .lconst 0, 1), (21, .lcmp, 1), (22, .ifCond .eq 64, 3), (25, .lload_n 3, 1), (26, .lload_n 1, 1), (27, .lcmp, 1), (28, .ifCond .eq 58, 3), (31, .lload 5, 2), (33, .lload 5, 2), (35, .lneg, 1), (36, .land, 1), (37, .lstore 8, 2), (39, .aload_n 0, 1), (40, .getfield 9, 3), (43, .lload 8, 2), (45, .lconst 1, 1), (46, .lsub, 1), (47, .invokestatic 32, 3), (50, .laload, 1), (51, .lload_n 1, 1), (52, .land, 1), (53, .lload_n 3, 1), (54, .ldc2_w 38, 3), (57, .lxor, 1), (58, .land, 1), (59, .lstore 10, 2), (61, .lload_n 3, 1), (62, .lload 10, 2), (64, .lor, 1), (65, .lstore_n 3, 1), (66, .lload 5, 2), (68, .lload 8, 2), (70, .ldc2_w 38, 3), (73, .lxor, 1), (74, .land, 1), (75, .lload 10, 2), (77, .lor, 1), (78, .lstore 5, 2), (80, .iinc 7 1, 3), (83, .goto (-72), 3), (86, .lload_n 3, 1), (87, .lreturn, 1)]
set_option maxRecDepth 100000 in
theorem d_Links_reach : sk_T c_Links_reach t_Links_reach := by unfold sk_T t_Links_reach; decide +kernel
def w_Links_reach (cI cJ cZ : ClassId) (a_t a_near a_nearTwice : Nat) (near : Nat → Int64) (present : Int64) : va_W := [(a_t, .inr (0, [.ref a_near, .ref a_nearTwice, .long present])), (a_near, .inl (cJ, 40, .inr (.inl near)))]
def wp_Links_reach  (near : Nat → Int64) (x1 : Int64) (post : Int64 → Prop) : Prop :=
  ∃ n, sL3 (fun (K_4 : Int64 → Int64 → Int32 → Prop) (i3_1 : Int64) (i5_2 : Int64) (i7_3 : Int32) => (40 ≤ i7_3 → post i3_1 ) ∧ (¬ 40 ≤ i7_3 → ((lg_cmp i5_2 0) = 0 → post i3_1 ) ∧ (¬ (lg_cmp i5_2 0) = 0 → ((lg_cmp i3_1 x1) = 0 → post i3_1 ) ∧ (¬ (lg_cmp i3_1 x1) = 0 → wp_Long_bitCount ((i5_2 &&& (-i5_2)) - 1) (fun r_7 => vp_in r_7 40 ∧ ∀ x_8 : Int64, x_8 = ((near (ix r_7)) &&& x1) &&& (i3_1 ^^^ (-1)) → ∀ x_10 : Int64, x_10 = (i5_2 &&& ((i5_2 &&& (-i5_2)) ^^^ (-1))) ||| x_8 → K_4 (i3_1 ||| x_8) x_10 (i7_3 + 1)))))) n (x1 &&& (-x1)) (x1 &&& (-x1)) 0
set_option maxHeartbeats 4000000 in
set_option maxRecDepth 100000 in
theorem bd_Links_reach {p : Program} {l : Launch} {e : Env} {R : Room} {s : State} {m : MethodId} {args : Array Value} {below : List Frame} {meth : Method} {c : Code} {D : va_G} {A B : Nat → Prop} {Q : State → Prop} {cI cJ cZ : ClassId} {a_t a_near a_nearTwice : Nat} {near : Nat → Int64} {present : Int64} {x1 : Int64} (K : sk_C p s m args meth c c_Links_reach 12 "SkeletonTree$Links" D (tyl cI cJ cZ)) (hR1 : 1 ≤ R.frames) (hR2 : 21 ≤ R.locals) {post : Int64 → Prop} (hend : ∀ (ti pc : Nat) (r : Int64)  (lv : List (Nat × Value)), t_Links_reach[ti]? = some (pc, .lreturn, 1) → post r  → AW p l e R s m args below meth c D A B 12 Q 0 0 (w_Links_reach cI cJ cZ a_t a_near a_nearTwice near present) lv pc [.long r]) (h : wp_Links_reach near x1 post) : AW p l e R s m args below meth c D A B 12 Q 0 0 (w_Links_reach cI cJ cZ a_t a_near a_nearTwice near present) [(0, .ref a_t), (1, .long x1)] 0 [] := by
  unfold wp_Links_reach at h
  refine A_lload_n K d_Links_reach 0 1 (pc' := 1) rfl rfl rfl rfl ?_
  refine A_lload_n K d_Links_reach 1 1 (pc' := 2) rfl rfl rfl rfl ?_
  refine A_lneg K d_Links_reach 2 (pc' := 3) rfl rfl ?_
  refine A_land K d_Links_reach 3 (pc' := 4) rfl rfl ?_
  refine A_lstore_n K d_Links_reach 4 (pc' := 5) (lv' := [(3, .long (x1 &&& (-x1))), (0, .ref a_t), (1, .long x1)]) rfl rfl rfl (by decide) rfl ?_
  refine A_lload_n K d_Links_reach 5 0 (pc' := 6) rfl rfl rfl rfl ?_
  refine A_lstore K d_Links_reach 6 (pc' := 8) (lv' := [(5, .long (x1 &&& (-x1))), (3, .long (x1 &&& (-x1))), (0, .ref a_t), (1, .long x1)]) rfl rfl (by decide) rfl ?_
  refine A_iconst K d_Links_reach 7 (pc' := 9) (v := 0) rfl rfl (by decide) ?_
  refine A_istore K d_Links_reach 8 (pc' := 11) (lv' := [(7, .int 0), (5, .long (x1 &&& (-x1))), (3, .long (x1 &&& (-x1))), (0, .ref a_t), (1, .long x1)]) rfl rfl (by decide) rfl ?_
  refine A_lv [3, 4, 2, 1, 0] rfl ?_
  obtain ⟨n_6, h⟩ := h
  refine sL3_ind (fun (i3_1 : Int64) (i5_2 : Int64) (i7_3 : Int32) => AW p l e R s m args below meth c D A B 12 Q 0 0 (w_Links_reach cI cJ cZ a_t a_near a_nearTwice near present) [(0, .ref a_t), (1, .long x1), (3, .long i3_1), (5, .long i5_2), (7, .int i7_3)] 11 []) ?_ n_6 _ _ _ h
  intro K_4 ih_5 i3_1 i5_2 i7_3 h
  refine A_iload K d_Links_reach 9 4 (pc' := 13) rfl rfl rfl ?_
  refine A_bipush K d_Links_reach 10 (pc' := 15) (v := 40) rfl rfl (by decide) ?_
  refine A_icmp_ge K d_Links_reach 11 86 (pc' := 18) rfl rfl rfl (fun q => ?_) (fun q => ?_)
  · replace h := h.1 q
    refine A_lload_n K d_Links_reach 53 2 (pc' := 87) rfl rfl rfl rfl ?_
    exact hend 54 _ _ _ rfl h
  · replace h := h.2 q
    refine A_lload K d_Links_reach 12 3 (pc' := 20) rfl rfl rfl ?_
    refine A_lconst K d_Links_reach 13 (pc' := 21) (v := 0) rfl rfl (by decide) ?_
    refine A_lcmp K d_Links_reach 14 (pc' := 22) rfl rfl ?_
    refine A_if_eq K d_Links_reach 15 86 (pc' := 25) rfl rfl rfl (fun q => ?_) (fun q => ?_)
    · replace h := h.1 q
      refine A_lload_n K d_Links_reach 53 2 (pc' := 87) rfl rfl rfl rfl ?_
      exact hend 54 _ _ _ rfl h
    · replace h := h.2 q
      refine A_lload_n K d_Links_reach 16 2 (pc' := 26) rfl rfl rfl rfl ?_
      refine A_lload_n K d_Links_reach 17 1 (pc' := 27) rfl rfl rfl rfl ?_
      refine A_lcmp K d_Links_reach 18 (pc' := 28) rfl rfl ?_
      refine A_if_eq K d_Links_reach 19 86 (pc' := 31) rfl rfl rfl (fun q => ?_) (fun q => ?_)
      · replace h := h.1 q
        refine A_lload_n K d_Links_reach 53 2 (pc' := 87) rfl rfl rfl rfl ?_
        exact hend 54 _ _ _ rfl h
      · replace h := h.2 q
        refine A_lload K d_Links_reach 20 3 (pc' := 33) rfl rfl rfl ?_
        refine A_lload K d_Links_reach 21 3 (pc' := 35) rfl rfl rfl ?_
        refine A_lneg K d_Links_reach 22 (pc' := 36) rfl rfl ?_
        refine A_land K d_Links_reach 23 (pc' := 37) rfl rfl ?_
        refine A_lstore K d_Links_reach 24 (pc' := 39) (lv' := [(8, .long (i5_2 &&& (-i5_2))), (0, .ref a_t), (1, .long x1), (3, .long i3_1), (5, .long i5_2), (7, .int i7_3)]) rfl rfl (by decide) rfl ?_
        refine A_aload_n K d_Links_reach 25 1 (pc' := 40) rfl rfl rfl rfl ?_
        refine A_get K d_Links_reach 26 0 fl_Links_9 (pc' := 43) rfl rfl rfl rfl ?_
        refine A_lload K d_Links_reach 27 0 (pc' := 45) rfl rfl rfl ?_
        refine A_lconst K d_Links_reach 28 (pc' := 46) (v := 1) rfl rfl (by decide) ?_
        refine A_lsub K d_Links_reach 29 (pc' := 47) rfl rfl ?_
        refine R_callS_i K d_Links_reach 30 [] (As := [.long ((i5_2 &&& (-i5_2)) - 1)]) (rest := [.ref a_near]) (pc' := 50) v_Links_32 ⟨rfl, rfl, Nat.le_trans (Nat.le_of_ble_eq_true rfl) hR1, Nat.le_trans (Nat.le_of_ble_eq_true rfl) hR2⟩ (fun sz => met_Long_bitCount l D cI cJ cZ ((i5_2 &&& (-i5_2)) - 1) _ sz) h rfl rfl rfl rfl rfl rfl (Nat.le_of_ble_eq_true rfl) ⟨Nat.zero_le _, Nat.zero_le _⟩ (fun r_7 h => ?_)
        refine A_lald K d_Links_reach 31 1 1 (pc' := 51) rfl rfl rfl rfl h.1 ?_
        replace h := h.2
        refine A_lload_n K d_Links_reach 32 2 (pc' := 52) rfl rfl rfl rfl ?_
        refine A_land K d_Links_reach 33 (pc' := 53) rfl rfl ?_
        refine A_lload_n K d_Links_reach 34 3 (pc' := 54) rfl rfl rfl rfl ?_
        refine A_ldc2 K d_Links_reach 35 g_275 (v := (-1)) (pc' := 57) rfl rfl ?_
        refine A_lxor K d_Links_reach 36 (pc' := 58) rfl rfl ?_
        refine A_land K d_Links_reach 37 (pc' := 59) rfl rfl ?_
        refine A_topl (fun x_8 e_9 => ?_)
        replace h := h x_8 e_9
        refine A_lstore K d_Links_reach 38 (pc' := 61) (lv' := [(10, .long x_8), (8, .long (i5_2 &&& (-i5_2))), (0, .ref a_t), (1, .long x1), (3, .long i3_1), (5, .long i5_2), (7, .int i7_3)]) rfl rfl (by decide) rfl ?_
        refine A_lload_n K d_Links_reach 39 4 (pc' := 62) rfl rfl rfl rfl ?_
        refine A_lload K d_Links_reach 40 0 (pc' := 64) rfl rfl rfl ?_
        refine A_lor K d_Links_reach 41 (pc' := 65) rfl rfl ?_
        refine A_lstore_n K d_Links_reach 42 (pc' := 66) (lv' := [(3, .long (i3_1 ||| x_8)), (10, .long x_8), (8, .long (i5_2 &&& (-i5_2))), (0, .ref a_t), (1, .long x1), (5, .long i5_2), (7, .int i7_3)]) rfl rfl rfl (by decide) rfl ?_
        refine A_lload K d_Links_reach 43 5 (pc' := 68) rfl rfl rfl ?_
        refine A_lload K d_Links_reach 44 2 (pc' := 70) rfl rfl rfl ?_
        refine A_ldc2 K d_Links_reach 45 g_275 (v := (-1)) (pc' := 73) rfl rfl ?_
        refine A_lxor K d_Links_reach 46 (pc' := 74) rfl rfl ?_
        refine A_land K d_Links_reach 47 (pc' := 75) rfl rfl ?_
        refine A_lload K d_Links_reach 48 1 (pc' := 77) rfl rfl rfl ?_
        refine A_lor K d_Links_reach 49 (pc' := 78) rfl rfl ?_
        refine A_topl (fun x_10 e_11 => ?_)
        replace h := h x_10 e_11
        refine A_lstore K d_Links_reach 50 (pc' := 80) (lv' := [(5, .long x_10), (3, .long (i3_1 ||| x_8)), (10, .long x_8), (8, .long (i5_2 &&& (-i5_2))), (0, .ref a_t), (1, .long x1), (7, .int i7_3)]) rfl rfl (by decide) rfl ?_
        refine A_iinc K d_Links_reach 51 6 (pc' := 83) (v := i7_3 + 1) (lv' := [(7, .int (i7_3 + 1)), (5, .long x_10), (3, .long (i3_1 ||| x_8)), (10, .long x_8), (8, .long (i5_2 &&& (-i5_2))), (0, .ref a_t), (1, .long x1)]) rfl rfl rfl rfl (by decide) rfl ?_
        refine A_goto K d_Links_reach 52 (pc' := 11) rfl rfl ?_
        refine A_lv [5, 6, 2, 1, 0] rfl ?_
        exact ih_5 _ _ _ h
theorem met_Links_reach (l : Launch) (D : va_G) (cI cJ cZ : ClassId) (a_t a_near a_nearTwice : Nat) (near : Nat → Int64) (present : Int64) (x1 : Int64) (post : Int64 → Prop) (sz : Nat) : Met l y_Links_reach (Cond.code y_Links_reach c_Links_reach 12 (Option.some Jvm.ClassFile.FieldType.long) :: GW) { frames := 1, cells := 0, slots := 0, locals := 21 } (va_Pc [.ref a_t, .long x1] (fun U => sk_P D (tyl cI cJ cZ) (w_Links_reach cI cJ cZ a_t a_near a_nearTwice near present) sz U ∧ wp_Links_reach near x1 post)) (va_Ql (fun (r : Int64) (_ : Unit) => post r) (fun _ t => sk_B D (tyl cI cJ cZ) (w_Links_reach cI cJ cZ a_t a_near a_nearTwice near present) (fun _ => True) t) (fun q => sz ≤ q)) 0 0 (fun q => sz ≤ q) :=
  sk_introR (by decide) (Nat.le_of_ble_eq_true rfl) (fun p e s m below meth c K hr _ h => bd_Links_reach K (Nat.le_refl _) (Nat.le_refl _) (fun ti pc r  lv hd hp => A_lret K d_Links_reach ti hr (post := (fun (r : Int64) (_ : Unit) => post r)) (wl := fun (_ : Unit) => w_Links_reach cI cJ cZ a_t a_near a_nearTwice near present) () hd hp) h)
/-! SkeletonTree$Links.holdTogether()Z -/
def t_Links_holdTogether : List (Nat × Instr × Nat) := [(0, .aload_n 0, 1), (1, .aload_n 0, 1), (2, .getfield 18, 3), (5, .invokevirtual 40, 3), (8, .aload_n 0, 1), (9, .getfield 18, 3), (12, .lcmp, 1), (13, .ifCond .eq 5, 3), (16, .iconst 0, 1), (17, .ireturn, 1), (18, .iconst 0, 1), (19, .istore_n 1, 1), (20, .iload_n 1, 1), (21, .bipush 40, 2), (23, .if_icmp .ge 35, 3), (26, .aload_n 0, 1), (27, .getfield 18, 3), (30, .iload_n 1, 1), (31, .invokestatic 28, 3), (34, .ldc2_w 38, 3), (37, .lxor, 1), (38, .land, 1), (39, .lstore_n 2, 1), (40, .aload_n 0, 1), (41, .lload_n 2, 1), (42, .invokevirtual 40, 3), (45, .lload_n 2, 1), (46, .lcmp, 1), (47, .ifCond .eq 5, 3), (50, .iconst 0, 1), (51, .ireturn, 1), (52, .iinc 1 1, 3), (55, .goto (-35), 3), (58, .iconst 1, 1), (59, .ireturn, 1)]
set_option maxRecDepth 100000 in
theorem d_Links_holdTogether : sk_T c_Links_holdTogether t_Links_holdTogether := by unfold sk_T t_Links_holdTogether; decide +kernel
def w_Links_holdTogether (cI cJ cZ : ClassId) (a_t a_near a_nearTwice : Nat) (near : Nat → Int64) (present : Int64) : va_W := [(a_t, .inr (0, [.ref a_near, .ref a_nearTwice, .long present])), (a_near, .inl (cJ, 40, .inr (.inl near)))]
def wp_Links_holdTogether  (near : Nat → Int64) (present : Int64)  (post : Int32 → Prop) : Prop :=
  wp_Links_reach near present (fun r_1 => ((lg_cmp r_1 present) = 0 → ∃ n, sL1 (fun (K_3 : Int32 → Prop) (i1_2 : Int32) => (40 ≤ i1_2 → post 1 ) ∧ (¬ 40 ≤ i1_2 → wp_Tree_only i1_2 (fun r_6 => wp_Links_reach near (present &&& (r_6 ^^^ (-1))) (fun r_7 => ((lg_cmp r_7 (present &&& (r_6 ^^^ (-1)))) = 0 → K_3 (i1_2 + 1)) ∧ (¬ (lg_cmp r_7 (present &&& (r_6 ^^^ (-1)))) = 0 → post 0 ))))) n 0) ∧ (¬ (lg_cmp r_1 present) = 0 → post 0 ))
set_option maxHeartbeats 4000000 in
set_option maxRecDepth 100000 in
theorem bd_Links_holdTogether {p : Program} {l : Launch} {e : Env} {R : Room} {s : State} {m : MethodId} {args : Array Value} {below : List Frame} {meth : Method} {c : Code} {D : va_G} {A B : Nat → Prop} {Q : State → Prop} {cI cJ cZ : ClassId} {a_t a_near a_nearTwice : Nat} {near : Nat → Int64} {present : Int64}  (K : sk_C p s m args meth c c_Links_holdTogether 4 "SkeletonTree$Links" D (tyl cI cJ cZ)) (hR1 : 2 ≤ R.frames) (hR2 : 52 ≤ R.locals) {post : Int32 → Prop} (hend : ∀ (ti pc : Nat) (r : Int32)  (lv : List (Nat × Value)), t_Links_holdTogether[ti]? = some (pc, .ireturn, 1) → sk_b r → post r  → AW p l e R s m args below meth c D A B 4 Q 0 0 (w_Links_holdTogether cI cJ cZ a_t a_near a_nearTwice near present) lv pc [.int r]) (h : wp_Links_holdTogether near present post) : AW p l e R s m args below meth c D A B 4 Q 0 0 (w_Links_holdTogether cI cJ cZ a_t a_near a_nearTwice near present) [(0, .ref a_t)] 0 [] := by
  unfold wp_Links_holdTogether at h
  refine A_aload_n K d_Links_holdTogether 0 0 (pc' := 1) rfl rfl rfl rfl ?_
  refine A_aload_n K d_Links_holdTogether 1 0 (pc' := 2) rfl rfl rfl rfl ?_
  refine A_get K d_Links_holdTogether 2 0 fl_Links_18 (pc' := 5) rfl rfl rfl rfl ?_
  refine R_callV_l K d_Links_holdTogether 3 [0, 1] (As := [.long present]) (rest := []) (pc' := 8) v_Links_40 ⟨rfl, rfl, Nat.le_trans (Nat.le_of_ble_eq_true rfl) hR1, Nat.le_trans (Nat.le_of_ble_eq_true rfl) hR2⟩ (fun sz => met_Links_reach l D cI cJ cZ a_t a_near a_nearTwice near present present _ sz) h rfl rfl rfl rfl rfl rfl (Nat.le_of_ble_eq_true rfl) ⟨Nat.zero_le _, Nat.zero_le _⟩ (q0 := 0) rfl rfl (fun r_1 h => ?_)
  refine A_aload_n K d_Links_holdTogether 4 0 (pc' := 9) rfl rfl rfl rfl ?_
  refine A_get K d_Links_holdTogether 5 0 fl_Links_18 (pc' := 12) rfl rfl rfl rfl ?_
  refine A_lcmp K d_Links_holdTogether 6 (pc' := 13) rfl rfl ?_
  refine A_if_eq K d_Links_holdTogether 7 18 (pc' := 16) rfl rfl rfl (fun q => ?_) (fun q => ?_)
  · replace h := h.1 q
    refine A_iconst K d_Links_holdTogether 10 (pc' := 19) (v := 0) rfl rfl (by decide) ?_
    refine A_istore_n K d_Links_holdTogether 11 (pc' := 20) (lv' := [(1, .int 0), (0, .ref a_t)]) rfl rfl rfl (by decide) rfl ?_
    refine A_lv [1, 0] rfl ?_
    obtain ⟨n_5, h⟩ := h
    refine sL1_ind (fun (i1_2 : Int32) => AW p l e R s m args below meth c D A B 4 Q 0 0 (w_Links_holdTogether cI cJ cZ a_t a_near a_nearTwice near present) [(0, .ref a_t), (1, .int i1_2)] 20 []) ?_ n_5 _ h
    intro K_3 ih_4 i1_2 h
    refine A_iload_n K d_Links_holdTogether 12 1 (pc' := 21) rfl rfl rfl rfl ?_
    refine A_bipush K d_Links_holdTogether 13 (pc' := 23) (v := 40) rfl rfl (by decide) ?_
    refine A_icmp_ge K d_Links_holdTogether 14 58 (pc' := 26) rfl rfl rfl (fun q => ?_) (fun q => ?_)
    · replace h := h.1 q
      refine A_iconst K d_Links_holdTogether 33 (pc' := 59) (v := 1) rfl rfl (by decide) ?_
      exact hend 34 _ _ _ rfl (Or.inr rfl) h
    · replace h := h.2 q
      refine A_aload_n K d_Links_holdTogether 15 0 (pc' := 27) rfl rfl rfl rfl ?_
      refine A_get K d_Links_holdTogether 16 0 fl_Links_18 (pc' := 30) rfl rfl rfl rfl ?_
      refine A_iload_n K d_Links_holdTogether 17 1 (pc' := 31) rfl rfl rfl rfl ?_
      refine R_callSN_l K d_Links_holdTogether 18 [] (As := [.int i1_2]) (rest := [.long present]) (pc' := 34) v_Links_28 ⟨rfl, rfl, Nat.le_trans (Nat.le_of_ble_eq_true rfl) hR1, Nat.le_trans (Nat.le_of_ble_eq_true rfl) hR2⟩ (fun sz => met_Tree_only l D cI cJ cZ i1_2 _ sz) h rfl rfl rfl rfl rfl rfl (Nat.le_of_ble_eq_true rfl) ⟨Nat.zero_le _, Nat.zero_le _⟩ (fun r_6 h => ?_)
      refine A_ldc2 K d_Links_holdTogether 19 g_275 (v := (-1)) (pc' := 37) rfl rfl ?_
      refine A_lxor K d_Links_holdTogether 20 (pc' := 38) rfl rfl ?_
      refine A_land K d_Links_holdTogether 21 (pc' := 39) rfl rfl ?_
      refine A_lstore_n K d_Links_holdTogether 22 (pc' := 40) (lv' := [(2, .long (present &&& (r_6 ^^^ (-1)))), (0, .ref a_t), (1, .int i1_2)]) rfl rfl rfl (by decide) rfl ?_
      refine A_aload_n K d_Links_holdTogether 23 1 (pc' := 41) rfl rfl rfl rfl ?_
      refine A_lload_n K d_Links_holdTogether 24 0 (pc' := 42) rfl rfl rfl rfl ?_
      refine R_callV_l K d_Links_holdTogether 25 [0, 1] (As := [.long (present &&& (r_6 ^^^ (-1)))]) (rest := []) (pc' := 45) v_Links_40 ⟨rfl, rfl, Nat.le_trans (Nat.le_of_ble_eq_true rfl) hR1, Nat.le_trans (Nat.le_of_ble_eq_true rfl) hR2⟩ (fun sz => met_Links_reach l D cI cJ cZ a_t a_near a_nearTwice near present (present &&& (r_6 ^^^ (-1))) _ sz) h rfl rfl rfl rfl rfl rfl (Nat.le_of_ble_eq_true rfl) ⟨Nat.zero_le _, Nat.zero_le _⟩ (q0 := 0) rfl rfl (fun r_7 h => ?_)
      refine A_lload_n K d_Links_holdTogether 26 0 (pc' := 46) rfl rfl rfl rfl ?_
      refine A_lcmp K d_Links_holdTogether 27 (pc' := 47) rfl rfl ?_
      refine A_if_eq K d_Links_holdTogether 28 52 (pc' := 50) rfl rfl rfl (fun q => ?_) (fun q => ?_)
      · replace h := h.1 q
        refine A_iinc K d_Links_holdTogether 31 2 (pc' := 55) (v := i1_2 + 1) (lv' := [(1, .int (i1_2 + 1)), (2, .long (present &&& (r_6 ^^^ (-1)))), (0, .ref a_t)]) rfl rfl rfl rfl (by decide) rfl ?_
        refine A_goto K d_Links_holdTogether 32 (pc' := 20) rfl rfl ?_
        refine A_lv [2, 0] rfl ?_
        exact ih_4 _ h
      · replace h := h.2 q
        refine A_iconst K d_Links_holdTogether 29 (pc' := 51) (v := 0) rfl rfl (by decide) ?_
        exact hend 30 _ _ _ rfl (Or.inl rfl) h
  · replace h := h.2 q
    refine A_iconst K d_Links_holdTogether 8 (pc' := 17) (v := 0) rfl rfl (by decide) ?_
    exact hend 9 _ _ _ rfl (Or.inl rfl) h
theorem met_Links_holdTogether (l : Launch) (D : va_G) (cI cJ cZ : ClassId) (a_t a_near a_nearTwice : Nat) (near : Nat → Int64) (present : Int64)  (post : Int32 → Prop) (sz : Nat) : Met l y_Links_holdTogether (Cond.code y_Links_holdTogether c_Links_holdTogether 4 (Option.some Jvm.ClassFile.FieldType.boolean) :: GW) { frames := 2, cells := 0, slots := 0, locals := 52 } (va_Pc [.ref a_t] (fun U => sk_P D (tyl cI cJ cZ) (w_Links_holdTogether cI cJ cZ a_t a_near a_nearTwice near present) sz U ∧ wp_Links_holdTogether near present post)) (va_Qi (fun (r : Int32) (_ : Unit) => post r) (fun _ t => sk_B D (tyl cI cJ cZ) (w_Links_holdTogether cI cJ cZ a_t a_near a_nearTwice near present) (fun _ => True) t) (fun q => sz ≤ q)) 0 0 (fun q => sz ≤ q) :=
  sk_introR (by decide) (Nat.le_of_ble_eq_true rfl) (fun p e s m below meth c K hr _ h => bd_Links_holdTogether K (Nat.le_refl _) (Nat.le_refl _) (fun ti pc r  lv hd hb hp => A_zret K d_Links_holdTogether ti hr (post := (fun (r : Int32) (_ : Unit) => post r)) (wl := fun (_ : Unit) => w_Links_holdTogether cI cJ cZ a_t a_near a_nearTwice near present) () hd hb hp) h)
/-! SkeletonTree$Links.comeApartAt(II)Z -/
def t_Links_comeApartAt : List (Nat × Instr × Nat) := [(0, .aload_n 0, 1), (1, .getfield 18, 3), (4, .iload_n 1, 1), (5, .invokestatic 28, 3), (8, .ldc2_w 38, 3), (11, .lxor, 1), (12, .land, 1), (13, .iload_n 2, 1), (14, .invokestatic 28, 3), (17, .ldc2_w 38, 3), (20, .lxor, 1), (21, .land, 1), (22, .lstore_n 3, 1), (23, .lload_n 3, 1), (24, .lconst 0, 1), (25, .lcmp, 1), (26, .ifCond .eq 30, 3), (29, .aload_n 0, 1), (30, .getfield 15, 3), (33, .iload_n 1, 1), (34, .laload, 1), (35, .iload_n 2, 1), (36, .invokestatic 44, 3), (39, .ifCond .ne 13, 3), (42, .aload_n 0, 1), (43, .lload_n 3, 1), (44, .invokevirtual 40, 3), (47, .lload_n 3, 1), (48, .lcmp, 1), (49, .ifCond .eq 7, 3), (52, .iconst 1, 1), (53, .goto 4, 3), (56, .iconst 0, 1), (57, .ireturn, 1)]
set_option maxRecDepth 100000 in
theorem d_Links_comeApartAt : sk_T c_Links_comeApartAt t_Links_comeApartAt := by unfold sk_T t_Links_comeApartAt; decide +kernel
def w_Links_comeApartAt (cI cJ cZ : ClassId) (a_t a_near a_nearTwice : Nat) (near : Nat → Int64) (nearTwice : Nat → Int64) (present : Int64) : va_W := [(a_t, .inr (0, [.ref a_near, .ref a_nearTwice, .long present])), (a_near, .inl (cJ, 40, .inr (.inl near))), (a_nearTwice, .inl (cJ, 40, .inr (.inl nearTwice)))]
def wp_Links_comeApartAt  (near : Nat → Int64) (nearTwice : Nat → Int64) (present : Int64) (x1 : Int32) (x2 : Int32) (post : Int32 → Prop) : Prop :=
  wp_Tree_only x1 (fun r_1 => wp_Tree_only x2 (fun r_2 => ∀ x_3 : Int64, x_3 = (present &&& (r_1 ^^^ (-1))) &&& (r_2 ^^^ (-1)) → ((lg_cmp x_3 0) = 0 → post 0 ) ∧ (¬ (lg_cmp x_3 0) = 0 → vp_in x1 40 ∧ wp_Tree_holds (nearTwice (ix x1)) x2 (fun r_5 => (¬ r_5 = 0 → post 1 ) ∧ (r_5 = 0 → wp_Links_reach near x_3 (fun r_6 => ((lg_cmp r_6 x_3) = 0 → post 0 ) ∧ (¬ (lg_cmp r_6 x_3) = 0 → post 1 )))))))
set_option maxHeartbeats 4000000 in
set_option maxRecDepth 100000 in
theorem bd_Links_comeApartAt {p : Program} {l : Launch} {e : Env} {R : Room} {s : State} {m : MethodId} {args : Array Value} {below : List Frame} {meth : Method} {c : Code} {D : va_G} {A B : Nat → Prop} {Q : State → Prop} {cI cJ cZ : ClassId} {a_t a_near a_nearTwice : Nat} {near : Nat → Int64} {nearTwice : Nat → Int64} {present : Int64} {x1 : Int32} {x2 : Int32} (K : sk_C p s m args meth c c_Links_comeApartAt 5 "SkeletonTree$Links" D (tyl cI cJ cZ)) (hR1 : 2 ≤ R.frames) (hR2 : 52 ≤ R.locals) {post : Int32 → Prop} (hend : ∀ (ti pc : Nat) (r : Int32)  (lv : List (Nat × Value)), t_Links_comeApartAt[ti]? = some (pc, .ireturn, 1) → sk_b r → post r  → AW p l e R s m args below meth c D A B 5 Q 0 0 (w_Links_comeApartAt cI cJ cZ a_t a_near a_nearTwice near nearTwice present) lv pc [.int r]) (h : wp_Links_comeApartAt near nearTwice present x1 x2 post) : AW p l e R s m args below meth c D A B 5 Q 0 0 (w_Links_comeApartAt cI cJ cZ a_t a_near a_nearTwice near nearTwice present) [(0, .ref a_t), (1, .int x1), (2, .int x2)] 0 [] := by
  unfold wp_Links_comeApartAt at h
  refine A_aload_n K d_Links_comeApartAt 0 0 (pc' := 1) rfl rfl rfl rfl ?_
  refine A_get K d_Links_comeApartAt 1 0 fl_Links_18 (pc' := 4) rfl rfl rfl rfl ?_
  refine A_iload_n K d_Links_comeApartAt 2 1 (pc' := 5) rfl rfl rfl rfl ?_
  refine R_callSN_l K d_Links_comeApartAt 3 [] (As := [.int x1]) (rest := [.long present]) (pc' := 8) v_Links_28 ⟨rfl, rfl, Nat.le_trans (Nat.le_of_ble_eq_true rfl) hR1, Nat.le_trans (Nat.le_of_ble_eq_true rfl) hR2⟩ (fun sz => met_Tree_only l D cI cJ cZ x1 _ sz) h rfl rfl rfl rfl rfl rfl (Nat.le_of_ble_eq_true rfl) ⟨Nat.zero_le _, Nat.zero_le _⟩ (fun r_1 h => ?_)
  refine A_ldc2 K d_Links_comeApartAt 4 g_275 (v := (-1)) (pc' := 11) rfl rfl ?_
  refine A_lxor K d_Links_comeApartAt 5 (pc' := 12) rfl rfl ?_
  refine A_land K d_Links_comeApartAt 6 (pc' := 13) rfl rfl ?_
  refine A_iload_n K d_Links_comeApartAt 7 2 (pc' := 14) rfl rfl rfl rfl ?_
  refine R_callSN_l K d_Links_comeApartAt 8 [] (As := [.int x2]) (rest := [.long (present &&& (r_1 ^^^ (-1)))]) (pc' := 17) v_Links_28 ⟨rfl, rfl, Nat.le_trans (Nat.le_of_ble_eq_true rfl) hR1, Nat.le_trans (Nat.le_of_ble_eq_true rfl) hR2⟩ (fun sz => met_Tree_only l D cI cJ cZ x2 _ sz) h rfl rfl rfl rfl rfl rfl (Nat.le_of_ble_eq_true rfl) ⟨Nat.zero_le _, Nat.zero_le _⟩ (fun r_2 h => ?_)
  refine A_ldc2 K d_Links_comeApartAt 9 g_275 (v := (-1)) (pc' := 20) rfl rfl ?_
  refine A_lxor K d_Links_comeApartAt 10 (pc' := 21) rfl rfl ?_
  refine A_land K d_Links_comeApartAt 11 (pc' := 22) rfl rfl ?_
  refine A_topl (fun x_3 e_4 => ?_)
  replace h := h x_3 e_4
  refine A_lstore_n K d_Links_comeApartAt 12 (pc' := 23) (lv' := [(3, .long x_3), (0, .ref a_t), (1, .int x1), (2, .int x2)]) rfl rfl rfl (by decide) rfl ?_
  refine A_lload_n K d_Links_comeApartAt 13 0 (pc' := 24) rfl rfl rfl rfl ?_
  refine A_lconst K d_Links_comeApartAt 14 (pc' := 25) (v := 0) rfl rfl (by decide) ?_
  refine A_lcmp K d_Links_comeApartAt 15 (pc' := 26) rfl rfl ?_
  refine A_if_eq K d_Links_comeApartAt 16 56 (pc' := 29) rfl rfl rfl (fun q => ?_) (fun q => ?_)
  · replace h := h.1 q
    refine A_iconst K d_Links_comeApartAt 32 (pc' := 57) (v := 0) rfl rfl (by decide) ?_
    exact hend 33 _ _ _ rfl (Or.inl rfl) h
  · replace h := h.2 q
    refine A_aload_n K d_Links_comeApartAt 17 1 (pc' := 30) rfl rfl rfl rfl ?_
    refine A_get K d_Links_comeApartAt 18 0 fl_Links_15 (pc' := 33) rfl rfl rfl rfl ?_
    refine A_iload_n K d_Links_comeApartAt 19 2 (pc' := 34) rfl rfl rfl rfl ?_
    refine A_lald K d_Links_comeApartAt 20 2 1 (pc' := 35) rfl rfl rfl rfl h.1 ?_
    replace h := h.2
    refine A_iload_n K d_Links_comeApartAt 21 3 (pc' := 36) rfl rfl rfl rfl ?_
    refine R_callSN_i K d_Links_comeApartAt 22 [] (As := [.long (nearTwice (ix x1)), .int x2]) (rest := []) (pc' := 39) v_Links_44 ⟨rfl, rfl, Nat.le_trans (Nat.le_of_ble_eq_true rfl) hR1, Nat.le_trans (Nat.le_of_ble_eq_true rfl) hR2⟩ (fun sz => met_Tree_holds l D cI cJ cZ (nearTwice (ix x1)) x2 _ sz) h rfl rfl rfl rfl rfl rfl (Nat.le_of_ble_eq_true rfl) ⟨Nat.zero_le _, Nat.zero_le _⟩ (fun r_5 h => ?_)
    refine A_if_ne K d_Links_comeApartAt 23 52 (pc' := 42) rfl rfl rfl (fun q => ?_) (fun q => ?_)
    · replace h := h.1 q
      refine A_iconst K d_Links_comeApartAt 30 (pc' := 53) (v := 1) rfl rfl (by decide) ?_
      refine A_goto K d_Links_comeApartAt 31 (pc' := 57) rfl rfl ?_
      exact hend 33 _ _ _ rfl (Or.inr rfl) h
    · replace h := h.2 q
      refine A_aload_n K d_Links_comeApartAt 24 1 (pc' := 43) rfl rfl rfl rfl ?_
      refine A_lload_n K d_Links_comeApartAt 25 0 (pc' := 44) rfl rfl rfl rfl ?_
      refine R_callV_l K d_Links_comeApartAt 26 [0, 1] (As := [.long x_3]) (rest := []) (pc' := 47) v_Links_40 ⟨rfl, rfl, Nat.le_trans (Nat.le_of_ble_eq_true rfl) hR1, Nat.le_trans (Nat.le_of_ble_eq_true rfl) hR2⟩ (fun sz => met_Links_reach l D cI cJ cZ a_t a_near a_nearTwice near present x_3 _ sz) h rfl rfl rfl rfl rfl rfl (Nat.le_of_ble_eq_true rfl) ⟨Nat.zero_le _, Nat.zero_le _⟩ (q0 := 0) rfl rfl (fun r_6 h => ?_)
      refine A_lload_n K d_Links_comeApartAt 27 0 (pc' := 48) rfl rfl rfl rfl ?_
      refine A_lcmp K d_Links_comeApartAt 28 (pc' := 49) rfl rfl ?_
      refine A_if_eq K d_Links_comeApartAt 29 56 (pc' := 52) rfl rfl rfl (fun q => ?_) (fun q => ?_)
      · replace h := h.1 q
        refine A_iconst K d_Links_comeApartAt 32 (pc' := 57) (v := 0) rfl rfl (by decide) ?_
        exact hend 33 _ _ _ rfl (Or.inl rfl) h
      · replace h := h.2 q
        refine A_iconst K d_Links_comeApartAt 30 (pc' := 53) (v := 1) rfl rfl (by decide) ?_
        refine A_goto K d_Links_comeApartAt 31 (pc' := 57) rfl rfl ?_
        exact hend 33 _ _ _ rfl (Or.inr rfl) h
theorem met_Links_comeApartAt (l : Launch) (D : va_G) (cI cJ cZ : ClassId) (a_t a_near a_nearTwice : Nat) (near : Nat → Int64) (nearTwice : Nat → Int64) (present : Int64) (x1 : Int32) (x2 : Int32) (post : Int32 → Prop) (sz : Nat) : Met l y_Links_comeApartAt (Cond.code y_Links_comeApartAt c_Links_comeApartAt 5 (Option.some Jvm.ClassFile.FieldType.boolean) :: GW) { frames := 2, cells := 0, slots := 0, locals := 52 } (va_Pc [.ref a_t, .int x1, .int x2] (fun U => sk_P D (tyl cI cJ cZ) (w_Links_comeApartAt cI cJ cZ a_t a_near a_nearTwice near nearTwice present) sz U ∧ wp_Links_comeApartAt near nearTwice present x1 x2 post)) (va_Qi (fun (r : Int32) (_ : Unit) => post r) (fun _ t => sk_B D (tyl cI cJ cZ) (w_Links_comeApartAt cI cJ cZ a_t a_near a_nearTwice near nearTwice present) (fun _ => True) t) (fun q => sz ≤ q)) 0 0 (fun q => sz ≤ q) :=
  sk_introR (by decide) (Nat.le_of_ble_eq_true rfl) (fun p e s m below meth c K hr _ h => bd_Links_comeApartAt K (Nat.le_refl _) (Nat.le_refl _) (fun ti pc r  lv hd hb hp => A_zret K d_Links_comeApartAt ti hr (post := (fun (r : Int32) (_ : Unit) => post r)) (wl := fun (_ : Unit) => w_Links_comeApartAt cI cJ cZ a_t a_near a_nearTwice near nearTwice present) () hd hb hp) h)
