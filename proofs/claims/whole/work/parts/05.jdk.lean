abbrev c_Arrays_fillI : ByteArray := prog_17_method_103_code
abbrev y_Arrays_fillI : MethodName := { cls := "java/util/Arrays", name := "fill", desc := "([II)V" }
abbrev c_Arrays_fillJ : ByteArray := prog_17_method_101_code
abbrev y_Arrays_fillJ : MethodName := { cls := "java/util/Arrays", name := "fill", desc := "([JJ)V" }
abbrev c_Long_bitCount : ByteArray := prog_12_method_50_code
abbrev y_Long_bitCount : MethodName := { cls := "java/lang/Long", name := "bitCount", desc := "(J)I" }
abbrev c_Tree_isPoint : ByteArray := prog_1_method_22_code
abbrev y_Tree_isPoint : MethodName := { cls := "SkeletonTree", name := "isPoint", desc := "(I)Z" }
abbrev c_Tree_only : ByteArray := prog_1_method_23_code
abbrev y_Tree_only : MethodName := { cls := "SkeletonTree", name := "only", desc := "(I)J" }
abbrev c_Tree_holds : ByteArray := prog_1_method_24_code
abbrev y_Tree_holds : MethodName := { cls := "SkeletonTree", name := "holds", desc := "(JI)Z" }
theorem g_272 : (Jvm.Cond.constantLong "java/lang/Long" (314 : Nat) (6148914691236517205 : Int64)) ∈ GW := gw_of 272 (by decide +kernel) (by decide +kernel)
theorem g_273 : (Jvm.Cond.constantLong "java/lang/Long" (316 : Nat) (3689348814741910323 : Int64)) ∈ GW := gw_of 273 (by decide +kernel) (by decide +kernel)
theorem g_274 : (Jvm.Cond.constantLong "java/lang/Long" (318 : Nat) (1085102592571150095 : Int64)) ∈ GW := gw_of 274 (by decide +kernel) (by decide +kernel)
theorem g_260 : (Jvm.Cond.code ({ cls := "SkeletonTree", name := "only", desc := "(I)J" } : Jvm.MethodName) prog_1_method_23_code (1 : Nat) (Option.some Jvm.ClassFile.FieldType.long)) ∈ GW := gw_of 260 (by decide +kernel) (by decide +kernel)
theorem g_308 : (Jvm.Cond.methodLink "SkeletonTree" (159 : Nat) ({ cls := "SkeletonTree", name := "only", desc := "(I)J" } : Jvm.MethodName)) ∈ GW := gw_of 308 (by decide +kernel) (by decide +kernel)
theorem g_47 : (Jvm.Cond.initialized "SkeletonTree") ∈ GW := gw_of 47 (by decide +kernel) (by decide +kernel)
theorem g_259 : (Jvm.Cond.static ({ cls := "SkeletonTree", name := "only", desc := "(I)J" } : Jvm.MethodName)) ∈ GW := gw_of 259 (by decide +kernel) (by decide +kernel)
theorem v_Tree_159 : sk_S "SkeletonTree" 159 y_Tree_only c_Tree_only 1 (Option.some Jvm.ClassFile.FieldType.long) 1 := ⟨g_260, g_308, g_259, g_47, by decide +kernel⟩
theorem gm_min : Cond.code Lib.Math.min.name Lib.Math.min.code 2 (some .int) ∈ GW := gw_of 361 (by decide +kernel) (by decide +kernel)
theorem gm_max : Cond.code Lib.Math.max.name Lib.Math.max.code 2 (some .int) ∈ GW := gw_of 377 (by decide +kernel) (by decide +kernel)
/-! java/util/Arrays.fill([II)V -/
def t_Arrays_fillI : List (Nat × Instr × Nat) := [(0, .iconst 0, 1), (1, .istore_n 2, 1), (2, .aload_n 0, 1), (3, .arraylength, 1), (4, .istore_n 3, 1), (5, .iload_n 2, 1), (6, .iload_n 3, 1), (7, .if_icmp .ge 13, 3), (10, .aload_n 0, 1), (11, .iload_n 2, 1), (12, .iload_n 1, 1), (13, .iastore, 1), (14, .iinc 2 1, 3), (17, .goto (-12), 3), (20, .return_, 1)]
set_option maxRecDepth 100000 in
theorem d_Arrays_fillI : sk_T c_Arrays_fillI t_Arrays_fillI := by unfold sk_T t_Arrays_fillI; decide +kernel
def w_Arrays_fillI (cI cJ cZ : ClassId) (a_p0 n_p0 : Nat) (p0 : Nat → Int32) : va_W := [(a_p0, .inl (cI, n_p0, .inl p0))]
def wp_Arrays_fillI (n_p0 : Nat) (p0 : Nat → Int32) (x1 : Int32) (post : (Nat → Int32) → Prop) : Prop :=
  ∃ n, sL2 (fun (K_3 : Int32 → (Nat → Int32) → Prop) (i2_1 : Int32) (p0_2 : Nat → Int32) => ((nI n_p0) ≤ i2_1 → post p0_2) ∧ (¬ (nI n_p0) ≤ i2_1 → vp_in i2_1 n_p0 ∧ ∀ p0_6 : Nat → Int32, p0_6 = upd p0_2 (ix i2_1) x1 → K_3 (i2_1 + 1) p0_6)) n 0 p0
set_option maxHeartbeats 4000000 in
set_option maxRecDepth 100000 in
theorem bd_Arrays_fillI {p : Program} {l : Launch} {e : Env} {R : Room} {s : State} {m : MethodId} {args : Array Value} {below : List Frame} {meth : Method} {c : Code} {D : va_G} {A B : Nat → Prop} {Q : State → Prop} {cI cJ cZ : ClassId} {a_p0 n_p0 : Nat} {p0 : Nat → Int32} {x1 : Int32} (K : sk_C p s m args meth c c_Arrays_fillI 4 "java/util/Arrays" D (tyl cI cJ cZ)) (hR1 : 0 ≤ R.frames) (hR2 : 0 ≤ R.locals) (hBA : ∀ q : Nat, B q → A q) {post : (Nat → Int32) → Prop} (hend : ∀ (ti pc : Nat)  (y0 : Nat → Int32) (lv : List (Nat × Value)), t_Arrays_fillI[ti]? = some (pc, .return_, 1) → post  y0 → AW p l e R s m args below meth c D A B 4 Q 0 0 (w_Arrays_fillI cI cJ cZ a_p0 n_p0 y0) lv pc []) (h : wp_Arrays_fillI n_p0 p0 x1 post) : AW p l e R s m args below meth c D A B 4 Q 0 0 (w_Arrays_fillI cI cJ cZ a_p0 n_p0 p0) [(0, .ref a_p0), (1, .int x1)] 0 [] := by
  unfold wp_Arrays_fillI at h
  refine A_iconst K d_Arrays_fillI 0 (pc' := 1) (v := 0) rfl rfl (by decide) ?_
  refine A_istore_n K d_Arrays_fillI 1 (pc' := 2) (lv' := [(2, .int 0), (0, .ref a_p0), (1, .int x1)]) rfl rfl rfl (by decide) rfl ?_
  refine A_aload_n K d_Arrays_fillI 2 1 (pc' := 3) rfl rfl rfl rfl ?_
  refine A_alen K d_Arrays_fillI 3 0 0 (v := nI n_p0) (pc' := 4) rfl rfl rfl rfl rfl ?_
  refine A_istore_n K d_Arrays_fillI 4 (pc' := 5) (lv' := [(3, .int (nI n_p0)), (2, .int 0), (0, .ref a_p0), (1, .int x1)]) rfl rfl rfl (by decide) rfl ?_
  refine A_lv [2, 3, 1, 0] rfl ?_
  obtain ⟨n_5, h⟩ := h
  refine sL2_ind (fun (i2_1 : Int32) (p0_2 : Nat → Int32) => AW p l e R s m args below meth c D A B 4 Q 0 0 (w_Arrays_fillI cI cJ cZ a_p0 n_p0 p0_2) [(0, .ref a_p0), (1, .int x1), (2, .int i2_1), (3, .int (nI n_p0))] 5 []) ?_ n_5 _ _ h
  intro K_3 ih_4 i2_1 p0_2 h
  refine A_iload_n K d_Arrays_fillI 5 2 (pc' := 6) rfl rfl rfl rfl ?_
  refine A_iload_n K d_Arrays_fillI 6 3 (pc' := 7) rfl rfl rfl rfl ?_
  refine A_icmp_ge K d_Arrays_fillI 7 20 (pc' := 10) rfl rfl rfl (fun q => ?_) (fun q => ?_)
  · replace h := h.1 q
    exact hend 14 _ _ _ rfl h
  · replace h := h.2 q
    refine A_aload_n K d_Arrays_fillI 8 0 (pc' := 11) rfl rfl rfl rfl ?_
    refine A_iload_n K d_Arrays_fillI 9 2 (pc' := 12) rfl rfl rfl rfl ?_
    refine A_iload_n K d_Arrays_fillI 10 1 (pc' := 13) rfl rfl rfl rfl ?_
    refine A_iastN K hBA d_Arrays_fillI 11 0 0 (pc' := 14) (ws' := fun p0_6 => w_Arrays_fillI cI cJ cZ a_p0 n_p0 p0_6) rfl rfl rfl rfl h.1 (fun _ => rfl) (fun p0_6 e_7 => ?_)
    replace h := h.2 p0_6 e_7
    refine A_iinc K d_Arrays_fillI 12 2 (pc' := 17) (v := i2_1 + 1) (lv' := [(2, .int (i2_1 + 1)), (0, .ref a_p0), (1, .int x1), (3, .int (nI n_p0))]) rfl rfl rfl rfl (by decide) rfl ?_
    refine A_goto K d_Arrays_fillI 13 (pc' := 5) rfl rfl ?_
    refine A_lv [1, 2, 0, 3] rfl ?_
    exact ih_4 _ _ h
theorem met_Arrays_fillI (l : Launch) (D : va_G) (cI cJ cZ : ClassId) (a_p0 n_p0 : Nat) (p0 : Nat → Int32) (x1 : Int32) (post : (Nat → Int32) → Prop) (sz : Nat) : Met l y_Arrays_fillI (Cond.code y_Arrays_fillI c_Arrays_fillI 4 (Option.none : Option Jvm.ClassFile.FieldType) :: GW) { frames := 0, cells := 0, slots := 0, locals := 0 } (va_Pc [.ref a_p0, .int x1] (fun U => sk_P D (tyl cI cJ cZ) (w_Arrays_fillI cI cJ cZ a_p0 n_p0 p0) sz U ∧ wp_Arrays_fillI n_p0 p0 x1 post)) (va_Qv (fun (u : (Nat → Int32)) => post  u) (fun u t => sk_B D (tyl cI cJ cZ) (w_Arrays_fillI cI cJ cZ a_p0 n_p0 u) (va_A (w_Arrays_fillI cI cJ cZ a_p0 n_p0 p0) sz) t) (va_A (w_Arrays_fillI cI cJ cZ a_p0 n_p0 p0) sz)) 0 0 (va_A (w_Arrays_fillI cI cJ cZ a_p0 n_p0 p0) sz) :=
  sk_intro (by decide) (Nat.le_of_ble_eq_true rfl) (fun p e s m below meth c K hr _ h => bd_Arrays_fillI K (Nat.le_refl _) (Nat.le_refl _) (fun _ z => z) (fun ti pc y0 lv hd hp => A_vret K d_Arrays_fillI ti hr (post := (fun (u : (Nat → Int32)) => post  u)) (wl := fun (u : (Nat → Int32)) => w_Arrays_fillI cI cJ cZ a_p0 n_p0 u) y0 hd hp) h)
/-! java/util/Arrays.fill([JJ)V -/
def t_Arrays_fillJ : List (Nat × Instr × Nat) := [(0, .iconst 0, 1), (1, .istore_n 3, 1), (2, .aload_n 0, 1), (3, .arraylength, 1), (4, .istore 4, 2), (6, .iload_n 3, 1), (7, .iload 4, 2), (9, .if_icmp .ge 13, 3), (12, .aload_n 0, 1), (13, .iload_n 3, 1), (14, .lload_n 1, 1), (15, .lastore, 1), (16, .iinc 3 1, 3), (19, .goto (-13), 3), (22, .return_, 1)]
set_option maxRecDepth 100000 in
theorem d_Arrays_fillJ : sk_T c_Arrays_fillJ t_Arrays_fillJ := by unfold sk_T t_Arrays_fillJ; decide +kernel
def w_Arrays_fillJ (cI cJ cZ : ClassId) (a_p0 n_p0 : Nat) (p0 : Nat → Int64) : va_W := [(a_p0, .inl (cJ, n_p0, .inr (.inl p0)))]
def wp_Arrays_fillJ (n_p0 : Nat) (p0 : Nat → Int64) (x1 : Int64) (post : (Nat → Int64) → Prop) : Prop :=
  ∃ n, sL2 (fun (K_3 : Int32 → (Nat → Int64) → Prop) (i3_1 : Int32) (p0_2 : Nat → Int64) => ((nI n_p0) ≤ i3_1 → post p0_2) ∧ (¬ (nI n_p0) ≤ i3_1 → vp_in i3_1 n_p0 ∧ ∀ p0_6 : Nat → Int64, p0_6 = vp_updL p0_2 (ix i3_1) x1 → K_3 (i3_1 + 1) p0_6)) n 0 p0
set_option maxHeartbeats 4000000 in
set_option maxRecDepth 100000 in
theorem bd_Arrays_fillJ {p : Program} {l : Launch} {e : Env} {R : Room} {s : State} {m : MethodId} {args : Array Value} {below : List Frame} {meth : Method} {c : Code} {D : va_G} {A B : Nat → Prop} {Q : State → Prop} {cI cJ cZ : ClassId} {a_p0 n_p0 : Nat} {p0 : Nat → Int64} {x1 : Int64} (K : sk_C p s m args meth c c_Arrays_fillJ 5 "java/util/Arrays" D (tyl cI cJ cZ)) (hR1 : 0 ≤ R.frames) (hR2 : 0 ≤ R.locals) (hBA : ∀ q : Nat, B q → A q) {post : (Nat → Int64) → Prop} (hend : ∀ (ti pc : Nat)  (y0 : Nat → Int64) (lv : List (Nat × Value)), t_Arrays_fillJ[ti]? = some (pc, .return_, 1) → post  y0 → AW p l e R s m args below meth c D A B 5 Q 0 0 (w_Arrays_fillJ cI cJ cZ a_p0 n_p0 y0) lv pc []) (h : wp_Arrays_fillJ n_p0 p0 x1 post) : AW p l e R s m args below meth c D A B 5 Q 0 0 (w_Arrays_fillJ cI cJ cZ a_p0 n_p0 p0) [(0, .ref a_p0), (1, .long x1)] 0 [] := by
  unfold wp_Arrays_fillJ at h
  refine A_iconst K d_Arrays_fillJ 0 (pc' := 1) (v := 0) rfl rfl (by decide) ?_
  refine A_istore_n K d_Arrays_fillJ 1 (pc' := 2) (lv' := [(3, .int 0), (0, .ref a_p0), (1, .long x1)]) rfl rfl rfl (by decide) rfl ?_
  refine A_aload_n K d_Arrays_fillJ 2 1 (pc' := 3) rfl rfl rfl rfl ?_
  refine A_alen K d_Arrays_fillJ 3 0 1 (v := nI n_p0) (pc' := 4) rfl rfl rfl rfl rfl ?_
  refine A_istore K d_Arrays_fillJ 4 (pc' := 6) (lv' := [(4, .int (nI n_p0)), (3, .int 0), (0, .ref a_p0), (1, .long x1)]) rfl rfl (by decide) rfl ?_
  refine A_lv [2, 3, 1, 0] rfl ?_
  obtain ⟨n_5, h⟩ := h
  refine sL2_ind (fun (i3_1 : Int32) (p0_2 : Nat → Int64) => AW p l e R s m args below meth c D A B 5 Q 0 0 (w_Arrays_fillJ cI cJ cZ a_p0 n_p0 p0_2) [(0, .ref a_p0), (1, .long x1), (3, .int i3_1), (4, .int (nI n_p0))] 6 []) ?_ n_5 _ _ h
  intro K_3 ih_4 i3_1 p0_2 h
  refine A_iload_n K d_Arrays_fillJ 5 2 (pc' := 7) rfl rfl rfl rfl ?_
  refine A_iload K d_Arrays_fillJ 6 3 (pc' := 9) rfl rfl rfl ?_
  refine A_icmp_ge K d_Arrays_fillJ 7 22 (pc' := 12) rfl rfl rfl (fun q => ?_) (fun q => ?_)
  · replace h := h.1 q
    exact hend 14 _ _ _ rfl h
  · replace h := h.2 q
    refine A_aload_n K d_Arrays_fillJ 8 0 (pc' := 13) rfl rfl rfl rfl ?_
    refine A_iload_n K d_Arrays_fillJ 9 2 (pc' := 14) rfl rfl rfl rfl ?_
    refine A_lload_n K d_Arrays_fillJ 10 1 (pc' := 15) rfl rfl rfl rfl ?_
    refine A_lastN K hBA d_Arrays_fillJ 11 0 1 (pc' := 16) (ws' := fun p0_6 => w_Arrays_fillJ cI cJ cZ a_p0 n_p0 p0_6) rfl rfl rfl rfl h.1 (fun _ => rfl) (fun p0_6 e_7 => ?_)
    replace h := h.2 p0_6 e_7
    refine A_iinc K d_Arrays_fillJ 12 2 (pc' := 19) (v := i3_1 + 1) (lv' := [(3, .int (i3_1 + 1)), (0, .ref a_p0), (1, .long x1), (4, .int (nI n_p0))]) rfl rfl rfl rfl (by decide) rfl ?_
    refine A_goto K d_Arrays_fillJ 13 (pc' := 6) rfl rfl ?_
    refine A_lv [1, 2, 0, 3] rfl ?_
    exact ih_4 _ _ h
theorem met_Arrays_fillJ (l : Launch) (D : va_G) (cI cJ cZ : ClassId) (a_p0 n_p0 : Nat) (p0 : Nat → Int64) (x1 : Int64) (post : (Nat → Int64) → Prop) (sz : Nat) : Met l y_Arrays_fillJ (Cond.code y_Arrays_fillJ c_Arrays_fillJ 5 (Option.none : Option Jvm.ClassFile.FieldType) :: GW) { frames := 0, cells := 0, slots := 0, locals := 0 } (va_Pc [.ref a_p0, .long x1] (fun U => sk_P D (tyl cI cJ cZ) (w_Arrays_fillJ cI cJ cZ a_p0 n_p0 p0) sz U ∧ wp_Arrays_fillJ n_p0 p0 x1 post)) (va_Qv (fun (u : (Nat → Int64)) => post  u) (fun u t => sk_B D (tyl cI cJ cZ) (w_Arrays_fillJ cI cJ cZ a_p0 n_p0 u) (va_A (w_Arrays_fillJ cI cJ cZ a_p0 n_p0 p0) sz) t) (va_A (w_Arrays_fillJ cI cJ cZ a_p0 n_p0 p0) sz)) 0 0 (va_A (w_Arrays_fillJ cI cJ cZ a_p0 n_p0 p0) sz) :=
  sk_intro (by decide) (Nat.le_of_ble_eq_true rfl) (fun p e s m below meth c K hr _ h => bd_Arrays_fillJ K (Nat.le_refl _) (Nat.le_refl _) (fun _ z => z) (fun ti pc y0 lv hd hp => A_vret K d_Arrays_fillJ ti hr (post := (fun (u : (Nat → Int64)) => post  u)) (wl := fun (u : (Nat → Int64)) => w_Arrays_fillJ cI cJ cZ a_p0 n_p0 u) y0 hd hp) h)
/-! java/lang/Long.bitCount(J)I -/
def t_Long_bitCount : List (Nat × Instr × Nat) := [(0, .lload_n 0, 1), (1, .lload_n 0, 1), (2, .iconst 1, 1), (3, .lushr, 1), (4, .ldc2_w 314, 3), (7, .land, 1), (8, .lsub, 1), (9, .lstore_n 0, 1), (10, .lload_n 0, 1), (11, .ldc2_w 316, 3), (14, .land, 1), (15, .lload_n 0, 1), (16, .iconst 2, 1), (17, .lushr, 1), (18, .ldc2_w 316, 3), (21, .land, 1), (22, .ladd, 1), (23, .lstore_n 0, 1), (24, .lload_n 0, 1), (25, .lload_n 0, 1), (26, .iconst 4, 1), (27, .lushr, 1), (28, .ladd, 1), (29, .ldc2_w 318, 3), (32, .land, 1), (33, .lstore_n 0, 1), (34, .lload_n 0, 1), (35, .lload_n 0, 1), (36, .bipush 8, 2), (38, .lushr, 1), (39, .ladd, 1), (40, .lstore_n 0, 1), (41, .lload_n 0, 1), (42, .lload_n 0, 1), (43, .bipush 16, 2), (45, .lushr, 1), (46, .ladd, 1), (47, .lstore_n 0, 1), (48, .lload_n 0, 1), (49, .lload_n 0, 1), (50, .bipush 32, 2), (52, .lushr, 1), (53, .ladd, 1), (54, .lstore_n 0, 1), (55, .lload_n 0, 1), (56, .l2i, 1), (57, .bipush 127, 2), (59, .iand, 1), (60, .ireturn, 1)]
set_option maxRecDepth 100000 in
theorem d_Long_bitCount : sk_T c_Long_bitCount t_Long_bitCount := by unfold sk_T t_Long_bitCount; decide +kernel
def w_Long_bitCount (cI cJ cZ : ClassId)   : va_W := []
def wp_Long_bitCount   (x0 : Int64) (post : Int32 → Prop) : Prop :=
  ∀ x_1 : Int64, x_1 = (x0.toUInt64 >>> ((1 : Int32).toInt64.toUInt64 &&& Int64.toUInt64 63)).toInt64 → ∀ x_3 : Int64, x_3 = (x0 - (x_1 &&& 6148914691236517205)) &&& 3689348814741910323 → ∀ x_5 : Int64, x_5 = ((x0 - (x_1 &&& 6148914691236517205)).toUInt64 >>> ((2 : Int32).toInt64.toUInt64 &&& Int64.toUInt64 63)).toInt64 → ∀ x_7 : Int64, x_7 = ((x_3 + (x_5 &&& 3689348814741910323)).toUInt64 >>> ((4 : Int32).toInt64.toUInt64 &&& Int64.toUInt64 63)).toInt64 → ∀ x_9 : Int64, x_9 = (x_3 + (x_5 &&& 3689348814741910323)) + x_7 → ∀ x_11 : Int64, x_11 = ((x_9 &&& 1085102592571150095).toUInt64 >>> ((8 : Int32).toInt64.toUInt64 &&& Int64.toUInt64 63)).toInt64 → ∀ x_13 : Int64, x_13 = (((x_9 &&& 1085102592571150095) + x_11).toUInt64 >>> ((16 : Int32).toInt64.toUInt64 &&& Int64.toUInt64 63)).toInt64 → ∀ x_15 : Int64, x_15 = ((x_9 &&& 1085102592571150095) + x_11) + x_13 → ∀ x_17 : Int64, x_17 = (x_15.toUInt64 >>> ((32 : Int32).toInt64.toUInt64 &&& Int64.toUInt64 63)).toInt64 → post (((x_15 + x_17).toInt32) &&& 127) 
set_option maxHeartbeats 4000000 in
set_option maxRecDepth 100000 in
theorem bd_Long_bitCount {p : Program} {l : Launch} {e : Env} {R : Room} {s : State} {m : MethodId} {args : Array Value} {below : List Frame} {meth : Method} {c : Code} {D : va_G} {A B : Nat → Prop} {Q : State → Prop} {cI cJ cZ : ClassId}   {x0 : Int64} (K : sk_C p s m args meth c c_Long_bitCount 2 "java/lang/Long" D (tyl cI cJ cZ)) (hR1 : 0 ≤ R.frames) (hR2 : 0 ≤ R.locals) {post : Int32 → Prop} (hend : ∀ (ti pc : Nat) (r : Int32)  (lv : List (Nat × Value)), t_Long_bitCount[ti]? = some (pc, .ireturn, 1) → post r  → AW p l e R s m args below meth c D A B 2 Q 0 0 (w_Long_bitCount cI cJ cZ ) lv pc [.int r]) (h : wp_Long_bitCount x0 post) : AW p l e R s m args below meth c D A B 2 Q 0 0 (w_Long_bitCount cI cJ cZ ) [(0, .long x0)] 0 [] := by
  unfold wp_Long_bitCount at h
  refine A_lload_n K d_Long_bitCount 0 0 (pc' := 1) rfl rfl rfl rfl ?_
  refine A_lload_n K d_Long_bitCount 1 0 (pc' := 2) rfl rfl rfl rfl ?_
  refine A_iconst K d_Long_bitCount 2 (pc' := 3) (v := 1) rfl rfl (by decide) ?_
  refine A_lushr K d_Long_bitCount 3 (pc' := 4) rfl rfl rfl ?_
  refine A_topl (fun x_1 e_2 => ?_)
  replace h := h x_1 e_2
  refine A_ldc2 K d_Long_bitCount 4 g_272 (v := 6148914691236517205) (pc' := 7) rfl rfl ?_
  refine A_land K d_Long_bitCount 5 (pc' := 8) rfl rfl ?_
  refine A_lsub K d_Long_bitCount 6 (pc' := 9) rfl rfl ?_
  refine A_lstore_n K d_Long_bitCount 7 (pc' := 10) (lv' := [(0, .long (x0 - (x_1 &&& 6148914691236517205)))]) rfl rfl rfl (by decide) rfl ?_
  refine A_lload_n K d_Long_bitCount 8 0 (pc' := 11) rfl rfl rfl rfl ?_
  refine A_ldc2 K d_Long_bitCount 9 g_273 (v := 3689348814741910323) (pc' := 14) rfl rfl ?_
  refine A_land K d_Long_bitCount 10 (pc' := 15) rfl rfl ?_
  refine A_topl (fun x_3 e_4 => ?_)
  replace h := h x_3 e_4
  refine A_lload_n K d_Long_bitCount 11 0 (pc' := 16) rfl rfl rfl rfl ?_
  refine A_iconst K d_Long_bitCount 12 (pc' := 17) (v := 2) rfl rfl (by decide) ?_
  refine A_lushr K d_Long_bitCount 13 (pc' := 18) rfl rfl rfl ?_
  refine A_topl (fun x_5 e_6 => ?_)
  replace h := h x_5 e_6
  refine A_ldc2 K d_Long_bitCount 14 g_273 (v := 3689348814741910323) (pc' := 21) rfl rfl ?_
  refine A_land K d_Long_bitCount 15 (pc' := 22) rfl rfl ?_
  refine A_ladd K d_Long_bitCount 16 (pc' := 23) rfl rfl ?_
  refine A_lstore_n K d_Long_bitCount 17 (pc' := 24) (lv' := [(0, .long (x_3 + (x_5 &&& 3689348814741910323)))]) rfl rfl rfl (by decide) rfl ?_
  refine A_lload_n K d_Long_bitCount 18 0 (pc' := 25) rfl rfl rfl rfl ?_
  refine A_lload_n K d_Long_bitCount 19 0 (pc' := 26) rfl rfl rfl rfl ?_
  refine A_iconst K d_Long_bitCount 20 (pc' := 27) (v := 4) rfl rfl (by decide) ?_
  refine A_lushr K d_Long_bitCount 21 (pc' := 28) rfl rfl rfl ?_
  refine A_topl (fun x_7 e_8 => ?_)
  replace h := h x_7 e_8
  refine A_ladd K d_Long_bitCount 22 (pc' := 29) rfl rfl ?_
  refine A_topl (fun x_9 e_10 => ?_)
  replace h := h x_9 e_10
  refine A_ldc2 K d_Long_bitCount 23 g_274 (v := 1085102592571150095) (pc' := 32) rfl rfl ?_
  refine A_land K d_Long_bitCount 24 (pc' := 33) rfl rfl ?_
  refine A_lstore_n K d_Long_bitCount 25 (pc' := 34) (lv' := [(0, .long (x_9 &&& 1085102592571150095))]) rfl rfl rfl (by decide) rfl ?_
  refine A_lload_n K d_Long_bitCount 26 0 (pc' := 35) rfl rfl rfl rfl ?_
  refine A_lload_n K d_Long_bitCount 27 0 (pc' := 36) rfl rfl rfl rfl ?_
  refine A_bipush K d_Long_bitCount 28 (pc' := 38) (v := 8) rfl rfl (by decide) ?_
  refine A_lushr K d_Long_bitCount 29 (pc' := 39) rfl rfl rfl ?_
  refine A_topl (fun x_11 e_12 => ?_)
  replace h := h x_11 e_12
  refine A_ladd K d_Long_bitCount 30 (pc' := 40) rfl rfl ?_
  refine A_lstore_n K d_Long_bitCount 31 (pc' := 41) (lv' := [(0, .long ((x_9 &&& 1085102592571150095) + x_11))]) rfl rfl rfl (by decide) rfl ?_
  refine A_lload_n K d_Long_bitCount 32 0 (pc' := 42) rfl rfl rfl rfl ?_
  refine A_lload_n K d_Long_bitCount 33 0 (pc' := 43) rfl rfl rfl rfl ?_
  refine A_bipush K d_Long_bitCount 34 (pc' := 45) (v := 16) rfl rfl (by decide) ?_
  refine A_lushr K d_Long_bitCount 35 (pc' := 46) rfl rfl rfl ?_
  refine A_topl (fun x_13 e_14 => ?_)
  replace h := h x_13 e_14
  refine A_ladd K d_Long_bitCount 36 (pc' := 47) rfl rfl ?_
  refine A_topl (fun x_15 e_16 => ?_)
  replace h := h x_15 e_16
  refine A_lstore_n K d_Long_bitCount 37 (pc' := 48) (lv' := [(0, .long x_15)]) rfl rfl rfl (by decide) rfl ?_
  refine A_lload_n K d_Long_bitCount 38 0 (pc' := 49) rfl rfl rfl rfl ?_
  refine A_lload_n K d_Long_bitCount 39 0 (pc' := 50) rfl rfl rfl rfl ?_
  refine A_bipush K d_Long_bitCount 40 (pc' := 52) (v := 32) rfl rfl (by decide) ?_
  refine A_lushr K d_Long_bitCount 41 (pc' := 53) rfl rfl rfl ?_
  refine A_topl (fun x_17 e_18 => ?_)
  replace h := h x_17 e_18
  refine A_ladd K d_Long_bitCount 42 (pc' := 54) rfl rfl ?_
  refine A_lstore_n K d_Long_bitCount 43 (pc' := 55) (lv' := [(0, .long (x_15 + x_17))]) rfl rfl rfl (by decide) rfl ?_
  refine A_lload_n K d_Long_bitCount 44 0 (pc' := 56) rfl rfl rfl rfl ?_
  refine A_l2i K d_Long_bitCount 45 (pc' := 57) rfl rfl rfl ?_
  refine A_bipush K d_Long_bitCount 46 (pc' := 59) (v := 127) rfl rfl (by decide) ?_
  refine A_iand K d_Long_bitCount 47 (pc' := 60) rfl rfl ?_
  exact hend 48 _ _ _ rfl h
theorem met_Long_bitCount (l : Launch) (D : va_G) (cI cJ cZ : ClassId)   (x0 : Int64) (post : Int32 → Prop) (sz : Nat) : Met l y_Long_bitCount (Cond.code y_Long_bitCount c_Long_bitCount 2 (Option.some Jvm.ClassFile.FieldType.int) :: GW) { frames := 0, cells := 0, slots := 0, locals := 0 } (va_Pc [.long x0] (fun U => sk_P D (tyl cI cJ cZ) (w_Long_bitCount cI cJ cZ ) sz U ∧ wp_Long_bitCount x0 post)) (va_Qi (fun (r : Int32) (_ : Unit) => post r) (fun _ t => sk_B D (tyl cI cJ cZ) (w_Long_bitCount cI cJ cZ ) (fun _ => True) t) (fun q => sz ≤ q)) 0 0 (fun q => sz ≤ q) :=
  sk_introR (by decide) (Nat.le_of_ble_eq_true rfl) (fun p e s m below meth c K hr _ h => bd_Long_bitCount K (Nat.le_refl _) (Nat.le_refl _) (fun ti pc r  lv hd hp => A_iret K d_Long_bitCount ti hr (post := (fun (r : Int32) (_ : Unit) => post r)) (wl := fun (_ : Unit) => w_Long_bitCount cI cJ cZ ) () hd hp) h)
/-! SkeletonTree.isPoint(I)Z -/
def t_Tree_isPoint : List (Nat × Instr × Nat) := [(0, .iload_n 0, 1), (1, .ifCond .lt 13, 3), (4, .iload_n 0, 1), (5, .bipush 40, 2), (7, .if_icmp .ge 7, 3), (10, .iconst 1, 1), (11, .goto 4, 3), (14, .iconst 0, 1), (15, .ireturn, 1)]
set_option maxRecDepth 100000 in
theorem d_Tree_isPoint : sk_T c_Tree_isPoint t_Tree_isPoint := by unfold sk_T t_Tree_isPoint; decide +kernel
def w_Tree_isPoint (cI cJ cZ : ClassId)   : va_W := []
def wp_Tree_isPoint   (x0 : Int32) (post : Int32 → Prop) : Prop :=
  (x0 < 0 → post 0 ) ∧ (¬ x0 < 0 → (40 ≤ x0 → post 0 ) ∧ (¬ 40 ≤ x0 → post 1 ))
set_option maxHeartbeats 4000000 in
set_option maxRecDepth 100000 in
theorem bd_Tree_isPoint {p : Program} {l : Launch} {e : Env} {R : Room} {s : State} {m : MethodId} {args : Array Value} {below : List Frame} {meth : Method} {c : Code} {D : va_G} {A B : Nat → Prop} {Q : State → Prop} {cI cJ cZ : ClassId}   {x0 : Int32} (K : sk_C p s m args meth c c_Tree_isPoint 1 "SkeletonTree" D (tyl cI cJ cZ)) (hR1 : 0 ≤ R.frames) (hR2 : 0 ≤ R.locals) {post : Int32 → Prop} (hend : ∀ (ti pc : Nat) (r : Int32)  (lv : List (Nat × Value)), t_Tree_isPoint[ti]? = some (pc, .ireturn, 1) → sk_b r → post r  → AW p l e R s m args below meth c D A B 1 Q 0 0 (w_Tree_isPoint cI cJ cZ ) lv pc [.int r]) (h : wp_Tree_isPoint x0 post) : AW p l e R s m args below meth c D A B 1 Q 0 0 (w_Tree_isPoint cI cJ cZ ) [(0, .int x0)] 0 [] := by
  unfold wp_Tree_isPoint at h
  refine A_iload_n K d_Tree_isPoint 0 0 (pc' := 1) rfl rfl rfl rfl ?_
  refine A_if_lt K d_Tree_isPoint 1 14 (pc' := 4) rfl rfl rfl (fun q => ?_) (fun q => ?_)
  · replace h := h.1 q
    refine A_iconst K d_Tree_isPoint 7 (pc' := 15) (v := 0) rfl rfl (by decide) ?_
    exact hend 8 _ _ _ rfl (Or.inl rfl) h
  · replace h := h.2 q
    refine A_iload_n K d_Tree_isPoint 2 0 (pc' := 5) rfl rfl rfl rfl ?_
    refine A_bipush K d_Tree_isPoint 3 (pc' := 7) (v := 40) rfl rfl (by decide) ?_
    refine A_icmp_ge K d_Tree_isPoint 4 14 (pc' := 10) rfl rfl rfl (fun q => ?_) (fun q => ?_)
    · replace h := h.1 q
      refine A_iconst K d_Tree_isPoint 7 (pc' := 15) (v := 0) rfl rfl (by decide) ?_
      exact hend 8 _ _ _ rfl (Or.inl rfl) h
    · replace h := h.2 q
      refine A_iconst K d_Tree_isPoint 5 (pc' := 11) (v := 1) rfl rfl (by decide) ?_
      refine A_goto K d_Tree_isPoint 6 (pc' := 15) rfl rfl ?_
      exact hend 8 _ _ _ rfl (Or.inr rfl) h
theorem met_Tree_isPoint (l : Launch) (D : va_G) (cI cJ cZ : ClassId)   (x0 : Int32) (post : Int32 → Prop) (sz : Nat) : Met l y_Tree_isPoint (Cond.code y_Tree_isPoint c_Tree_isPoint 1 (Option.some Jvm.ClassFile.FieldType.boolean) :: GW) { frames := 0, cells := 0, slots := 0, locals := 0 } (va_Pc [.int x0] (fun U => sk_P D (tyl cI cJ cZ) (w_Tree_isPoint cI cJ cZ ) sz U ∧ wp_Tree_isPoint x0 post)) (va_Qi (fun (r : Int32) (_ : Unit) => post r) (fun _ t => sk_B D (tyl cI cJ cZ) (w_Tree_isPoint cI cJ cZ ) (fun _ => True) t) (fun q => sz ≤ q)) 0 0 (fun q => sz ≤ q) :=
  sk_introR (by decide) (Nat.le_of_ble_eq_true rfl) (fun p e s m below meth c K hr _ h => bd_Tree_isPoint K (Nat.le_refl _) (Nat.le_refl _) (fun ti pc r  lv hd hb hp => A_zret K d_Tree_isPoint ti hr (post := (fun (r : Int32) (_ : Unit) => post r)) (wl := fun (_ : Unit) => w_Tree_isPoint cI cJ cZ ) () hd hb hp) h)
/-! SkeletonTree.only(I)J -/
def t_Tree_only : List (Nat × Instr × Nat) := [(0, .lconst 1, 1), (1, .iload_n 0, 1), (2, .lshl, 1), (3, .lreturn, 1)]
set_option maxRecDepth 100000 in
theorem d_Tree_only : sk_T c_Tree_only t_Tree_only := by unfold sk_T t_Tree_only; decide +kernel
def w_Tree_only (cI cJ cZ : ClassId)   : va_W := []
def wp_Tree_only   (x0 : Int32) (post : Int64 → Prop) : Prop :=
  post ((1 : Int64) <<< (x0.toInt64 &&& 63)) 
set_option maxHeartbeats 4000000 in
set_option maxRecDepth 100000 in
theorem bd_Tree_only {p : Program} {l : Launch} {e : Env} {R : Room} {s : State} {m : MethodId} {args : Array Value} {below : List Frame} {meth : Method} {c : Code} {D : va_G} {A B : Nat → Prop} {Q : State → Prop} {cI cJ cZ : ClassId}   {x0 : Int32} (K : sk_C p s m args meth c c_Tree_only 1 "SkeletonTree" D (tyl cI cJ cZ)) (hR1 : 0 ≤ R.frames) (hR2 : 0 ≤ R.locals) {post : Int64 → Prop} (hend : ∀ (ti pc : Nat) (r : Int64)  (lv : List (Nat × Value)), t_Tree_only[ti]? = some (pc, .lreturn, 1) → post r  → AW p l e R s m args below meth c D A B 1 Q 0 0 (w_Tree_only cI cJ cZ ) lv pc [.long r]) (h : wp_Tree_only x0 post) : AW p l e R s m args below meth c D A B 1 Q 0 0 (w_Tree_only cI cJ cZ ) [(0, .int x0)] 0 [] := by
  unfold wp_Tree_only at h
  refine A_lconst K d_Tree_only 0 (pc' := 1) (v := 1) rfl rfl (by decide) ?_
  refine A_iload_n K d_Tree_only 1 0 (pc' := 2) rfl rfl rfl rfl ?_
  refine A_lshl K d_Tree_only 2 (pc' := 3) rfl rfl rfl ?_
  exact hend 3 _ _ _ rfl h
theorem met_Tree_only (l : Launch) (D : va_G) (cI cJ cZ : ClassId)   (x0 : Int32) (post : Int64 → Prop) (sz : Nat) : Met l y_Tree_only (Cond.code y_Tree_only c_Tree_only 1 (Option.some Jvm.ClassFile.FieldType.long) :: GW) { frames := 0, cells := 0, slots := 0, locals := 0 } (va_Pc [.int x0] (fun U => sk_P D (tyl cI cJ cZ) (w_Tree_only cI cJ cZ ) sz U ∧ wp_Tree_only x0 post)) (va_Ql (fun (r : Int64) (_ : Unit) => post r) (fun _ t => sk_B D (tyl cI cJ cZ) (w_Tree_only cI cJ cZ ) (fun _ => True) t) (fun q => sz ≤ q)) 0 0 (fun q => sz ≤ q) :=
  sk_introR (by decide) (Nat.le_of_ble_eq_true rfl) (fun p e s m below meth c K hr _ h => bd_Tree_only K (Nat.le_refl _) (Nat.le_refl _) (fun ti pc r  lv hd hp => A_lret K d_Tree_only ti hr (post := (fun (r : Int64) (_ : Unit) => post r)) (wl := fun (_ : Unit) => w_Tree_only cI cJ cZ ) () hd hp) h)
/-! SkeletonTree.holds(JI)Z -/
def t_Tree_holds : List (Nat × Instr × Nat) := [(0, .lload_n 0, 1), (1, .iload_n 2, 1), (2, .invokestatic 159, 3), (5, .land, 1), (6, .lconst 0, 1), (7, .lcmp, 1), (8, .ifCond .eq 7, 3), (11, .iconst 1, 1), (12, .goto 4, 3), (15, .iconst 0, 1), (16, .ireturn, 1)]
set_option maxRecDepth 100000 in
theorem d_Tree_holds : sk_T c_Tree_holds t_Tree_holds := by unfold sk_T t_Tree_holds; decide +kernel
def w_Tree_holds (cI cJ cZ : ClassId)   : va_W := []
def wp_Tree_holds   (x0 : Int64) (x2 : Int32) (post : Int32 → Prop) : Prop :=
  wp_Tree_only x2 (fun r_1 => ((lg_cmp (x0 &&& r_1) 0) = 0 → post 0 ) ∧ (¬ (lg_cmp (x0 &&& r_1) 0) = 0 → post 1 ))
set_option maxHeartbeats 4000000 in
set_option maxRecDepth 100000 in
theorem bd_Tree_holds {p : Program} {l : Launch} {e : Env} {R : Room} {s : State} {m : MethodId} {args : Array Value} {below : List Frame} {meth : Method} {c : Code} {D : va_G} {A B : Nat → Prop} {Q : State → Prop} {cI cJ cZ : ClassId}   {x0 : Int64} {x2 : Int32} (K : sk_C p s m args meth c c_Tree_holds 3 "SkeletonTree" D (tyl cI cJ cZ)) (hR1 : 1 ≤ R.frames) (hR2 : 20 ≤ R.locals) {post : Int32 → Prop} (hend : ∀ (ti pc : Nat) (r : Int32)  (lv : List (Nat × Value)), t_Tree_holds[ti]? = some (pc, .ireturn, 1) → sk_b r → post r  → AW p l e R s m args below meth c D A B 3 Q 0 0 (w_Tree_holds cI cJ cZ ) lv pc [.int r]) (h : wp_Tree_holds x0 x2 post) : AW p l e R s m args below meth c D A B 3 Q 0 0 (w_Tree_holds cI cJ cZ ) [(0, .long x0), (2, .int x2)] 0 [] := by
  unfold wp_Tree_holds at h
  refine A_lload_n K d_Tree_holds 0 0 (pc' := 1) rfl rfl rfl rfl ?_
  refine A_iload_n K d_Tree_holds 1 1 (pc' := 2) rfl rfl rfl rfl ?_
  refine R_callS_l K d_Tree_holds 2 [] (As := [.int x2]) (rest := [.long x0]) (pc' := 5) v_Tree_159 ⟨rfl, rfl, Nat.le_trans (Nat.le_of_ble_eq_true rfl) hR1, Nat.le_trans (Nat.le_of_ble_eq_true rfl) hR2⟩ (fun sz => met_Tree_only l D cI cJ cZ x2 _ sz) h rfl rfl rfl rfl rfl rfl (Nat.le_of_ble_eq_true rfl) ⟨Nat.zero_le _, Nat.zero_le _⟩ (fun r_1 h => ?_)
  refine A_land K d_Tree_holds 3 (pc' := 6) rfl rfl ?_
  refine A_lconst K d_Tree_holds 4 (pc' := 7) (v := 0) rfl rfl (by decide) ?_
  refine A_lcmp K d_Tree_holds 5 (pc' := 8) rfl rfl ?_
  refine A_if_eq K d_Tree_holds 6 15 (pc' := 11) rfl rfl rfl (fun q => ?_) (fun q => ?_)
  · replace h := h.1 q
    refine A_iconst K d_Tree_holds 9 (pc' := 16) (v := 0) rfl rfl (by decide) ?_
    exact hend 10 _ _ _ rfl (Or.inl rfl) h
  · replace h := h.2 q
    refine A_iconst K d_Tree_holds 7 (pc' := 12) (v := 1) rfl rfl (by decide) ?_
    refine A_goto K d_Tree_holds 8 (pc' := 16) rfl rfl ?_
    exact hend 10 _ _ _ rfl (Or.inr rfl) h
theorem met_Tree_holds (l : Launch) (D : va_G) (cI cJ cZ : ClassId)   (x0 : Int64) (x2 : Int32) (post : Int32 → Prop) (sz : Nat) : Met l y_Tree_holds (Cond.code y_Tree_holds c_Tree_holds 3 (Option.some Jvm.ClassFile.FieldType.boolean) :: GW) { frames := 1, cells := 0, slots := 0, locals := 20 } (va_Pc [.long x0, .int x2] (fun U => sk_P D (tyl cI cJ cZ) (w_Tree_holds cI cJ cZ ) sz U ∧ wp_Tree_holds x0 x2 post)) (va_Qi (fun (r : Int32) (_ : Unit) => post r) (fun _ t => sk_B D (tyl cI cJ cZ) (w_Tree_holds cI cJ cZ ) (fun _ => True) t) (fun q => sz ≤ q)) 0 0 (fun q => sz ≤ q) :=
  sk_introR (by decide) (Nat.le_of_ble_eq_true rfl) (fun p e s m below meth c K hr _ h => bd_Tree_holds K (Nat.le_refl _) (Nat.le_refl _) (fun ti pc r  lv hd hb hp => A_zret K d_Tree_holds ti hr (post := (fun (r : Int32) (_ : Unit) => post r)) (wl := fun (_ : Unit) => w_Tree_holds cI cJ cZ ) () hd hb hp) h)
