/-! EXCEPTIONS OF THE CLASS -/
def excN : Nat → String
  | 0 => "java/lang/IllegalArgumentException"
  | 1 => "java/lang/IllegalStateException"
  | _ => "java/lang/IndexOutOfBoundsException"
def strs : List (Nat × String) := [(65, "an edge needs two different points 0 .. 39"), (72, "100 edges were made"), (78, "there is no such edge"), (175, "there is no tree"), (178, "there is no such node"), (127, "there is no such item"), (180, "there is no such point")]
/-- a static that its class lays, at an address that nobody writes -/
def va_Y (C n d : String) (A : Nat → Prop) (U : State) (H : Heap) : Prop := ∃ (cf : ClassId) (kf : Class) (fi : Nat) (f : Field) (a : Nat) (cell : Cell), U.vm.findClass C = some cf ∧ U.fieldFound? C n d = some (cf, kf, fi, f) ∧ f.isStatic = true ∧ kf.statics = some a ∧ H[a]? = some cell ∧ cell.vm.isStatics = true ∧ cell.cls = cf ∧ f.slot < cell.slots.size ∧ kf.staticTypes[f.slot]? = some f.type ∧ ¬ A a
theorem va_Y.moved {C n d : String} {A : Nat → Prop} {u U : State} {H : Heap} (hvm : u.vm.Alike U.vm) (h : va_Y C n d A u H) : va_Y C n d A U H := by
  obtain ⟨cf, kf, fi, f, a, cell, h0, h1, h2, h3, h4, h5, h6, h7, h8, h9⟩ := h
  obtain ⟨k', hi', he⟩ := State.fieldFound?_setVm hvm h1
  exact ⟨cf, k', fi, f, a, cell, by rw [hvm.findClass]; exact h0, hi', h2, by rw [he]; exact h3, h4, h5, h6, h7, by rw [he]; exact h8, h9⟩
theorem va_Y.kept {C n d : String} {A : Nat → Prop} {U : State} {H H1 : Heap} (h : va_Y C n d A U H) (hq : ∀ a : Nat, a < H.size → ¬ A a → H1[a]? = H[a]?) : va_Y C n d A U H1 := by
  obtain ⟨cf, kf, fi, f, a, cell, h0, h1, h2, h3, h4, h5, h6, h7, h8, h9⟩ := h
  exact ⟨cf, kf, fi, f, a, cell, h0, h1, h2, h3, by rw [hq a (Array.getElem?_eq_some_iff.mp h4).1 h9]; exact h4, h5, h6, h7, h8, h9⟩
theorem va_Y.narrow {C n d : String} {A B : Nat → Prop} {U : State} {H : Heap} (h : va_Y C n d A U H) (hAB : ∀ q, B q → A q) : va_Y C n d B U H := by
  obtain ⟨cf, kf, fi, f, a, cell, h0, h1, h2, h3, h4, h5, h6, h7, h8, h9⟩ := h
  exact ⟨cf, kf, fi, f, a, cell, h0, h1, h2, h3, h4, h5, h6, h7, h8, fun z => h9 (hAB a z)⟩
theorem va_Y.use {C n d : String} {A : Nat → Prop} {s : State} {args : Array Value} (h : va_Y C n d A s s.heap) : (Cond.laysStatic C n d).before args s = true := by
  obtain ⟨cf, kf, fi, f, a, cell, h0, h1, h2, h3, h4, h5, h6, h7, h8, -⟩ := h
  exact Cond.laysStatic_of h0 h1 h2 h3 h4 h5 h6 h7 h8
theorem va_Y.of {C n d : String} {A : Nat → Prop} {s : State} {args : Array Value} (h : (Cond.laysStatic C n d).before args s = true) (hA : ∀ a : Nat, a < s.heap.size → ¬ A a) : va_Y C n d A s s.heap := by
  obtain ⟨c, k, i, f, a, cell, h0, h1, h2, h3, h4, h5, h6, h7, h8⟩ := Cond.laysStatic_spec h
  exact ⟨c, k, i, f, a, cell, h0, h1, h2, h3, h4, h5, h6, h7, h8, hA a (Array.getElem?_eq_some_iff.mp h4).1⟩
/-- what the statics and texts are, that a throw uses: at addresses that nobody writes -/
def sk_X (A : Nat → Prop) (U : State) (H : Heap) : Prop := va_Zq "java/lang/Throwable" "UNASSIGNED_STACK" "[Ljava/lang/StackTraceElement;" A U H ∧ va_Zq "java/lang/Throwable" "SUPPRESSED_SENTINEL" "Ljava/util/List;" A U H ∧ (∀ q ∈ strs, ∃ a : Nat, vk_R "SkeletonTree" q.1 q.2 a U) ∧ va_Y "java/lang/Throwable" "UNASSIGNED_STACK" "[Ljava/lang/StackTraceElement;" A U H ∧ va_Y "java/lang/Throwable" "SUPPRESSED_SENTINEL" "Ljava/util/List;" A U H
theorem sk_X.to {A B : Nat → Prop} {s U : State} {H : Heap} {locs : List Loc} (h : sk_X A s s.heap) (hW : s.WarmedH U.vm) (hS : va_S A s.heap H locs) (hH : U.heap = H) (hBA : ∀ q, B q → A q) : sk_X B U U.heap := by
  rw [hH]
  exact ⟨((h.1.kept hS.2.1).moved hW.alike).narrow hBA, ((h.2.1.kept hS.2.1).moved hW.alike).narrow hBA, fun q hq => by
    obtain ⟨a, ha⟩ := h.2.2.1 q hq
    exact ⟨a, vk_R.warm hW ha⟩, ((h.2.2.2.1.kept hS.2.1).moved hW.alike).narrow hBA, ((h.2.2.2.2.kept hS.2.1).moved hW.alike).narrow hBA⟩
theorem sk_X.calling {A : Nat → Prop} {U : State} {g : JFrame} {mk : MethodId} {a : Array Value} (h : sk_X A U U.heap) : sk_X A (U.calling g mk a) (U.calling g mk a).heap :=
  ⟨va_Zq.moved (u := U) (U := U.calling g mk a) (Vm.Alike.refl U.vm) h.1, va_Zq.moved (u := U) (U := U.calling g mk a) (Vm.Alike.refl U.vm) h.2.1, fun q hq => by
    obtain ⟨b, hb⟩ := h.2.2.1 q hq
    exact ⟨b, vk_R.same (u := U) (U := U.calling g mk a) rfl hb⟩, va_Y.moved (u := U) (U := U.calling g mk a) (Vm.Alike.refl U.vm) h.2.2.2.1, va_Y.moved (u := U) (U := U.calling g mk a) (Vm.Alike.refl U.vm) h.2.2.2.2⟩
theorem sk_Zref {C n d : String} {A : Nat → Prop} {s : State} {args : Array Value} (h : va_Zq C n d A s s.heap) : (Cond.isRef (.static C n d)).before args s = true := by
  have key : ∀ v : Value, va_Z C n d v A s s.heap → ∀ o, (Term.static C n d).eval args s o [] s = some v := by
    intro v hv o
    obtain ⟨cf, kf, fi, f, a, cell, h1, h2, h3, h4, h5, h6, h7, -⟩ := hv
    simp [Term.eval, State.fieldNamed?, h1, h2, h4, h5, h6, h7]
  rcases h with h | ⟨t, h⟩
  · simp [Cond.before, Cond.holds, Cond.value, key _ h]
  · simp [Cond.before, Cond.holds, Cond.value, key _ h]
/-- the exception of kind k at x -/
def sk_E (k : Nat) (x : Addr) (U : State) : Prop := ∃ ce : Cell, U.heap[x]? = some ce ∧ ce.vm.isStatics = false ∧ U.vm.findClass (excN k) = some ce.cls
def exUp : List String := ["java/lang/RuntimeException", "java/lang/Exception"]
/-- the words of a throw -/
def sk_Tw (k ic ii : Nat) : Prop := Cond.classLink "SkeletonTree" ic (excN k) ∈ GW ∧ Cond.instantiable (excN k) 6 ∈ GW ∧ Cond.initialized (excN k) ∈ GW ∧ Bundle.fit (excN k) = true ∧ ∀ a ∈ Bundle.ownAtoms "SkeletonTree" ii (excN k) exUp, a ∈ GW ∨ a ∈ NW ∨ a = Cond.laysStatic "java/lang/Throwable" "UNASSIGNED_STACK" "[Ljava/lang/StackTraceElement;" ∨ a = Cond.laysStatic "java/lang/Throwable" "SUPPRESSED_SENTINEL" "Ljava/util/List;" ∨ a = Cond.isRef (.static "java/lang/Throwable" "UNASSIGNED_STACK" "[Ljava/lang/StackTraceElement;") ∨ a = Cond.isRef (.static "java/lang/Throwable" "SUPPRESSED_SENTINEL" "Ljava/util/List;")

theorem gw_dec {L : List Cond} (x y z w : Cond) (h : L.all (fun a => (decide (a ∈ lw_tbl) && (goodWord a || isNest a)) || ((decide (a = x) || decide (a = y)) || (decide (a = z) || decide (a = w)))) = true) : ∀ a ∈ L, a ∈ GW ∨ a ∈ NW ∨ a = x ∨ a = y ∨ a = z ∨ a = w := fun a ha => by
  have h1 := List.all_eq_true.mp h a ha
  simp only [Bool.or_eq_true, Bool.and_eq_true, decide_eq_true_eq] at h1
  rcases h1 with ⟨h1, h2 | h2⟩ | ((h1 | h1) | (h1 | h1))
  · exact Or.inl (List.mem_filter.mpr ⟨h1, h2⟩)
  · exact Or.inr (Or.inl (List.mem_filter.mpr ⟨h1, h2⟩))
  · exact Or.inr (Or.inr (Or.inl h1))
  · exact Or.inr (Or.inr (Or.inr (Or.inl h1)))
  · exact Or.inr (Or.inr (Or.inr (Or.inr (Or.inl h1))))
  · exact Or.inr (Or.inr (Or.inr (Or.inr (Or.inr h1))))
section TW
variable {p : Program} {l : Launch} {e : Env} {R : Room} {s : State} {m : MethodId} {args : Array Value} {below : List Frame} {meth : Method} {c : Code} {D : va_G} {A B : Nat → Prop} {nL : Nat} {Q : State → Prop} {cells slots : Nat} {ws : va_W} {lv lv' : List (Nat × Value)} {pc pc' : Nat} {st rest As : List Value} {cc : ByteArray} {own : String} {tys : List (ClassId × FieldType)} {t : List (Nat × Instr × Nat)}
theorem A_throw (K : sk_C p s m args meth c cc nL "SkeletonTree" D tys) (T : sk_T cc t) (ti : Nat) {k ic is ii : Nat} {tx : String} {A0 : Nat → Prop} {Qc : Array Value → State → Outcome → State → Prop} {free : Addr → Prop} (hX : sk_X A0 s s.heap) (htr : e.platform.stackTraces = false) (hnh : c.exceptionTable.toList = []) (hA1 : ∀ q, A q → s.heap.size ≤ q) (hs : (is, tx) ∈ strs) (F : sk_Tw k ic ii)
    (hd0 : t[ti]? = some (pc, .new ic, 3)) (hd1 : t[ti + 1]? = some (pc + 3, .dup, 1)) (hd2 : t[ti + 2]? = some (pc + 3 + 1, .ldc is, 2)) (hd3 : t[ti + 3]? = some (pc + 3 + 1 + 2, .invokespecial ii, 3)) (hd4 : t[ti + 4]? = some (pc + 3 + 1 + 2 + 3, .athrow, 1))
    (hRf : 6 ≤ R.frames) (hRl : 82 ≤ R.locals) (hc : 1 ≤ R.cells) (hsl : 6 ≤ R.slots)
    (hQ : ∀ (x : Addr) (t : State), s.heap.size ≤ t.heap.size → (∀ q : Nat, q < s.heap.size → t.heap[q]? = s.heap[q]?) → s.WarmedH t.vm → sk_E k x t → Qc args s (.threw x) t) :
    AW p l e R s m args below meth c D A B nL (MQX below Qc args s 1 6 free) 0 0 ws lv pc [] := by
  intro hA H locs ls hP hD hS hl
  refine va_forget (fun q hq => hA1 _ (hS.2.2 q hq)) ?_
  obtain ⟨F1, F2, F3, F4, F5⟩ := F
  obtain ⟨cX, kX0, hfc, -⟩ := Cond.instantiable_spec (K.2.2.2.2.1 _ F2)
  refine W.newcK K.1 K.2.1 K.2.2.2.1 (K.2.2.2.2.1 _ F1) (K.2.2.2.2.1 _ F2) (K.2.2.2.2.1 _ F3) rfl (T.at ti hd0) (by omega) (by omega) hfc rfl (fun H1 kC hkC e1 z1 o1 => ?_)
  show W p l e R s m args below meth c H1 [] (0 + 1) (0 + 6) (MQX below Qc args s 1 6 free) (F0 m (pc + 3) ls [.ref H.size])
  refine lv_dup K.1 K.2.1 (T.at (ti + 1) hd1) rfl ?_
  obtain ⟨qs, hqs⟩ := hX.2.2.1 (is, tx) hs
  refine va_ldcS K.1 K.2.1 K.2.2.2.1 hqs (T.at (ti + 2) hd2) ?_
  intro T' hT' X
  have hat : ∀ a ∈ Bundle.ownAtoms "SkeletonTree" ii (excN k) exUp, a.before args s = true := fun a ha => by
    rcases F5 a ha with h | h | h | h | h | h
    · exact K.2.2.2.2.1 _ h
    · have h1 := K.2.2.2.2.2.2.2 _ h
      have h2 := (List.mem_filter.mp h).2
      cases a with
      | methodLinkNest _ _ _ _ => exact va_Nw.use rfl h1
      | castable _ _ => exact va_Nw.use rfl h1
      | declares _ => exact va_Nw.use rfl h1
      | _ => exact absurd h2 (by simp [isNest])
    · rw [h]; exact va_Y.use hX.2.2.2.1
    · rw [h]; exact va_Y.use hX.2.2.2.2
    · rw [h]; exact sk_Zref hX.1
    · rw [h]; exact sk_Zref hX.2.1
  obtain ⟨U, hst, hrun, hend, hW, hsame, ce, hce, hO⟩ := X.ctorThrowS K.1 htr (own := "SkeletonTree") (cls := excN k) (names := exUp) (ic := ii) K.2.2.2.1 F4 (by decide) hat (fun x hx => by cases hx) hfc hkC (by rw [hT']; exact e1) hS.1 (msg := .ref qs) rfl (g := F0 m (pc + 3 + 1 + 2) ls [.ref qs, .ref H.size, .ref H.size]) rfl (hl.1.trans K.2.2.1.symm) rfl rfl (rest := []) rfl (by rw [K.2.1]; exact T.at (ti + 3) hd3) (by rw [K.2.1]; exact T.at (ti + 4) hd4) (by rw [hnh]; exact fun x hx => by cases hx) (show exUp.length + 3 < R.frames from hRf) (show 2 * 0 + 1 + (13 * (exUp.length + 1) + 42) ≤ R.locals from hRl) K.2.2.2.2.2.2.1
  refine ⟨U, hst, .threw H.size, hrun, hend, hQ H.size U hsame.2.1 (fun q hq => ?_) hW ⟨ce, hce, by rw [hO.vm]; rfl, by rw [hW.alike.findClass]; exact hO.cls⟩, [], ⟨hW, hsame⟩, fun q hq => by cases hq⟩
  obtain ⟨c0, hc0⟩ : ∃ c0, s.heap[q]? = some c0 := ⟨_, Array.getElem?_eq_getElem hq⟩
  obtain ⟨c', h1, h2, h3, h4⟩ := hsame.2.2.2.2.2 q c0 hc0
  have h5 : c'.slots = c0.slots := Array.ext_getElem? (fun i => h4 i (fun z => by cases z))
  rw [hc0]
  rw [h5] at h2
  exact h1.trans (congrArg some h2)
/-- an exception of kind k is on its way in this method, from pc -/
def AXW (p : Program) (l : Launch) (e : Env) (R : Room) (s : State) (m : MethodId) (args : Array Value) (below : List Frame) (meth : Method) (c : Code) (D : va_G) (A B : Nat → Prop) (nL : Nat) (Q : State → Prop) (cells slots : Nat) (ws : va_W) (lv : List (Nat × Value)) (pc k : Nat) : Prop :=
  (∀ q : Nat, s.heap.size ≤ q → A q) → ∀ (H : Heap) (locs : List Loc) (ls : Array Slot) (st : List Value) (x : Addr) (T : State), T.heap = H → Stand p l e R s m args below meth c T locs cells slots → va_P D classes ws H → va_D B ws → va_S A s.heap H locs → lv_has ls nL lv → sk_E k x T → ∃ t, Steps p.tables e below ((T.setTop (F0 m pc ls st)).pushFrame (.throwing x)) t ∧ Q t
theorem AX_leave (K : sk_C p s m args meth c cc nL own D tys) {k : Nat} {Qc : Array Value → State → Outcome → State → Prop} {free : Addr → Prop} (hnh : c.exceptionTable.toList = []) (hA1 : ∀ q, A q → s.heap.size ≤ q) (hfr : ∀ q : Nat, s.heap.size ≤ q → free q)
    (hQ : ∀ (x : Addr) (t : State), s.heap.size ≤ t.heap.size → (∀ q : Nat, q < s.heap.size → t.heap[q]? = s.heap[q]?) → s.WarmedH t.vm → sk_E k x t → Qc args s (.threw x) t) : AXW p l e R s m args below meth c D A B nL (MQX below Qc args s cells slots free) cells slots ws lv pc k := by
  intro hA H locs ls st x T hT X hP hD hS hl hE
  obtain ⟨h1, h2, h3, h4, h5⟩ := X.leaveThrown x (g := F0 m pc ls st) rfl rfl rfl (by rw [hnh]; exact fun x hx => by cases hx) K.2.2.2.2.2.2.1
  refine ⟨_, h1, .threw x, h2, h3, hQ x _ (by show s.heap.size ≤ T.heap.size; rw [hT]; exact hS.1) (fun q hq => ?_) h4 hE, locs, ⟨h4, h5⟩, fun q hq => hfr _ (hA1 _ (hS.2.2 q hq))⟩
  show T.heap[q]? = s.heap[q]?
  rw [hT]
  exact hS.2.1 q hq (fun z => absurd (hA1 q z) (Nat.not_le.mpr hq))
end TW

/-! CONTRACTS OF THE FACE: both outcomes -/
def QXi {S : Type} (post : Int32 → S → Prop) (exn : Nat → Prop) (Bw : S → State → Prop) (A : Nat → Prop) : Array Value → State → Outcome → State → Prop := fun _ st oc t =>
  (∃ (r : Int32) (u : S), oc = .returned (some (.int r)) ∧ post r u ∧ Bw u t ∧ va_F A st t) ∨ (∃ (x : Addr) (k : Nat), oc = .threw x ∧ exn k ∧ sk_E k x t ∧ st.heap.size ≤ t.heap.size ∧ ∀ q : Nat, q < st.heap.size → t.heap[q]? = st.heap[q]?)
def QXv {S : Type} (post : S → Prop) (exn : Nat → Prop) (Bw : S → State → Prop) (A : Nat → Prop) : Array Value → State → Outcome → State → Prop := fun _ st oc t =>
  (∃ (u : S), oc = .returned none ∧ post u ∧ Bw u t ∧ va_F A st t) ∨ (∃ (x : Addr) (k : Nat), oc = .threw x ∧ exn k ∧ sk_E k x t ∧ st.heap.size ≤ t.heap.size ∧ ∀ q : Nat, q < st.heap.size → t.heap[q]? = st.heap[q]?)
def sk_PX (D : va_G) (tys : List (ClassId × FieldType)) (w : va_W) (sz : Nat) (U : State) : Prop := sk_P D tys w sz U ∧ sk_X (va_A w sz) U U.heap
theorem sk_PX.blind {D : va_G} {tys : List (ClassId × FieldType)} {w : va_W} {sz : Nat} {av : List Value} {P : Prop} : FrameBlind (va_Pc av (fun U => sk_PX D tys w sz U ∧ P)) := fun a U g mk h => by
  obtain ⟨h0, ⟨⟨h1, h2, h3, h4, h6⟩, h7⟩, h5⟩ := h
  exact ⟨h0, ⟨⟨h1, h2, va_K.moved (u := U) (U := U.calling g mk a) (Vm.Alike.refl U.vm) h3, h4, sk_N.same (s := U) (U := U.calling g mk a) rfl h6⟩, h7.calling⟩, h5⟩
theorem sk_introX {l : Launch} {y : MethodName} {cc : ByteArray} {maxL : Nat} {ret : Option FieldType} {rm : Room} {D : va_G} {tys : List (ClassId × FieldType)} {w0 : va_W} {av : List Value} {sz : Nat} {wp : Prop} {Qc : Array Value → State → Outcome → State → Prop} {free : Addr → Prop} (hlt : l.stackTraces = false) (hy : plainName y.cls = true) (hlen : (lg_sl av).length ≤ maxL)
    (body : ∀ (p : Program) (e : Env) (s : State) (m : MethodId) (below : List Frame) (meth : Method) (c : Code), sk_C p s m av.toArray meth c cc maxL y.cls D tys → sk_X (va_A w0 sz) s s.heap → e.platform.stackTraces = false → c.exceptionTable.toList = [] → meth.sig.returnType = ret → s.heap.size = sz → wp → AW p l e rm s m av.toArray below meth c D (fun q => sz ≤ q) (fun _ => True) maxL (MQX below Qc av.toArray s 1 6 free) 0 0 w0 (lv_args 0 av) 0 []) :
    MetX l y (Cond.code y cc maxL ret :: GW) rm (va_Pc av (fun U => sk_PX D tys w0 sz U ∧ wp)) Qc 1 6 free := by
  refine MetX.ofW (cc := cc) (maxL := maxL) (ret := ret) hy rfl ?_
  intro p e s m args below meth c s₁ B hml hv
  obtain ⟨rfl, ⟨⟨hsz, hP, hK, hD0, hN⟩, hX⟩, hwp⟩ := hv
  have hts := atoms_spec (ws := Cond.code y cc maxL ret :: GW) B.pre
  have hown : s.vm.findClass y.cls = some m.cls := findClass_of_methodNamed B.named
  have hnh : c.exceptionTable.toList = [] := by
    have h1 := B.noHandlers (hts _ List.mem_cons_self)
    simpa using h1
  have htr : e.platform.stackTraces = false := by rw [B.admits.platform]; exact hlt
  have hl := lv_entry av (n := maxL) hlen
  rw [lg_entry_eq]
  generalize (lg_sl av ++ List.replicate (maxL - (lg_sl av).length) Slot.unset).toArray = ls at hl ⊢
  exact body p e s m below meth c ⟨B.exec, B.bytes, hml, hown, fun w hw => hts w (List.mem_cons_of_mem _ hw), hK, B.notSynchronized, hN⟩ hX htr hnh B.returns hsz hwp (fun q hq => by rw [← hsz]; exact hq) s.heap [] ls hP hD0 va_S.rf hl
theorem MQ_X {below : List Frame} {Q1 Q2 : Array Value → State → Outcome → State → Prop} {a : Array Value} {s t : State} {mc ms : Nat} {f1 f2 : Addr → Prop} (hQ : ∀ v : Option Value, Q1 a s (.returned v) t → Q2 a s (.returned v) t) (hf : ∀ q, f1 q → f2 q) (h : MQ below Q1 a s 0 0 f1 t) : MQX below Q2 a s mc ms f2 t := by
  obtain ⟨o, h1, h2, h3, L, h4, h5⟩ := h
  obtain ⟨⟨v, rfl⟩, h6, h7⟩ := h4
  exact ⟨_, h1, h2, hQ v h3, L, ⟨h6, h7⟩, fun q hq => hf _ (h5 q hq)⟩
section TX
variable {p : Program} {l : Launch} {e : Env} {R : Room} {s : State} {m : MethodId} {args : Array Value} {below : List Frame} {meth : Method} {c : Code} {D : va_G} {A B A0 : Nat → Prop} {nL : Nat} {Q Q1 : State → Prop} {cells slots : Nat} {ws : va_W} {lv lv' : List (Nat × Value)} {pc pc' : Nat} {st rest As : List Value} {cc : ByteArray} {own : String} {tys : List (ClassId × FieldType)} {t : List (Nat × Instr × Nat)} {y : MethodName} {bytes : ByteArray} {maxL n index b : Nat} {ret : Option FieldType} {rm : Room} {wc : va_W} {wpc : Prop} {S : Type} {wl : S → va_W} {C : String}
theorem AW_mono (hQ : ∀ t, Q1 t → Q t) (h : AW p l e R s m args below meth c D A B nL Q1 cells slots ws lv pc st) : AW p l e R s m args below meth c D A B nL Q cells slots ws lv pc st := fun hA H locs ls hP hD hS hl T hT X => by
  obtain ⟨t, h1, h2⟩ := h hA H locs ls hP hD hS hl T hT X
  exact ⟨t, h1, hQ t h2⟩
def sk_RX (rm R : Room) (maxL : Nat) : Prop := rm.cells = 1 ∧ rm.slots = 6 ∧ rm.frames + 1 ≤ R.frames ∧ 8 + (maxL + 11) + rm.locals ≤ R.locals
/-- a call that may throw: what comes of it -/
def va_RunX (p : Program) (l : Launch) (e : Env) (R : Room) (s : State) (m : MethodId) (args : Array Value) (below : List Frame) (meth : Method) (c : Code) (H : Heap) (locs : List Loc) (cells slots : Nat) (g : JFrame) (rest : List Value) (Qa : State → Outcome → State → Prop) (free : Addr → Prop) : Prop :=
  ∀ T : State, T.heap = H → Stand p l e R s m args below meth c T locs cells slots →
    (∃ (v : Option Value) (st₀ t T' : State) (L : List Loc), st₀.heap = H ∧ Stand p l e R s m args below meth c T' (locs ++ L) cells slots ∧ (∀ q ∈ L, free q.base) ∧ T'.heap = t.heap ∧ T'.vm = t.vm ∧ Qa st₀ (.returned v) t ∧
      ∀ target, Steps p.tables e below (T'.setTop { g with pc := g.pc + 3, stack := v.toList ++ rest }) target → Steps p.tables e below (T.setTop g) target) ∨
    (∃ (x : Addr) (st₀ t T' : State) (L : List Loc), st₀.heap = H ∧ Stand p l e R s m args below meth c T' (locs ++ L) (cells + 1) (slots + 6) ∧ (∀ q ∈ L, free q.base) ∧ T'.heap = t.heap ∧ T'.vm = t.vm ∧ Qa st₀ (.threw x) t ∧
      ∀ target, Steps p.tables e below ((T'.setTop { g with stack := rest }).pushFrame (.throwing x)) target → Steps p.tables e below (T.setTop g) target)
theorem va_runVX {Pc : Array Value → State → Prop} {Qc : Array Value → State → Outcome → State → Prop} {free : Addr → Prop} {H : Heap} {locs : List Loc} {g : JFrame} (K : sk_C p s m args meth c cc nL own D tys) (V : sk_V own index y bytes maxL ret n C) (hR : sk_RX rm R maxL) (hM : MetX l y (Cond.code y bytes maxL ret :: GW) rm Pc Qc 1 6 free) (hp : PreV s H C b Pc As)
    (hg : g.method = m) (hn : As.length = n) (hsize : g.locals.size = nL) (hstack : g.stack = As.reverse ++ .ref b :: rest) (hW : 2 * g.monitorRoom + (rest.map fun v => v.category).sum ≤ 8) (hdg : decode cc g.pc = .ok (.invokevirtual index, 3)) (hf : cells + 1 ≤ R.cells ∧ slots + 6 ≤ R.slots) :
    va_RunX p l e R s m args below meth c H locs cells slots g rest (Qc (Value.ref b :: As).toArray) free := by
  have hK : BackX l R p e below s args y 3 8 (PreOf R 1 6 Pc) (PostOf Qc 0 0 free) (PostTOf Qc 1 6 free) := backX_of (bytes := bytes) (maxL := maxL) (ret := ret) hM hp.1 hR.1 hR.2.1 hR.2.2.1 hR.2.2.2 (pay_in K.2.2.2.2.1 (gw_goodc V.1)) List.mem_cons_self (fun a' U hW => pay_in K.2.2.2.2.1 gw_good _ V.2.2.2.2.1 a' U hW)
  obtain ⟨V1, V2, V3, V4, V5, V6, V7, V8⟩ := V
  obtain ⟨-, ⟨cellB, hcB, hoB, hclB⟩, hPc⟩ := hp
  intro T hT X
  have hlen : ∀ sig, parseMethodDescriptor y.desc = some sig → As.length = sig.parameters.length := fun sig h => by
    rw [h] at V8
    exact hn.trans (Option.some.inj V8).symm
  rcases callVX X K.1 (C := C) (bytes := bytes) (maxL := maxL) (ret := ret) K.2.2.2.1 (K.2.2.2.2.1 _ V2) (K.2.2.2.2.1 _ V3) (K.2.2.2.2.1 _ V4) (K.2.2.2.2.1 _ V1) ⟨V6, V7⟩ hK (by rw [hT]; exact hcB) hoB hclB hg (hsize.trans K.2.2.1.symm) (argsL := As) (rest := rest) hlen hstack hW (by rw [K.2.1]; exact hdg)
    (fun vm₁ hW₁ => ⟨hf.1, hf.2, hPc (T.setVm vm₁) hT hW₁⟩) with ⟨v, vm₁, ⟨U', l2, c2, s2⟩, hW₁, X', ⟨g', mk, t, L, e1, e2, hq, h1, hL, h2, h3⟩, st⟩ | ⟨x, vm₁, ⟨U', l2, c2, s2⟩, hW₁, X', ⟨g', mk, t, L, e1, e2, hq, h1, hL, h2, h3⟩, st⟩
  · dsimp only [Pt.U, Pt.locs, Pt.cells, Pt.slots] at X' e1 e2 h1 h2 h3 st
    subst h1; subst h2; subst h3
    exact Or.inl ⟨v, (T.setVm vm₁).calling g' mk (Value.ref b :: As).toArray, t, U', L, hT, X', hL, e1, e2, hq, st⟩
  · dsimp only [Pt.U, Pt.locs, Pt.cells, Pt.slots] at X' e1 e2 h1 h2 h3 st
    subst h1; subst h2; subst h3
    exact Or.inr ⟨x, (T.setVm vm₁).calling g' mk (Value.ref b :: As).toArray, t, U', L, hT, X', hL, e1, e2, hq, st⟩

theorem RX_call_i (K : sk_C p s m args meth c cc nL own D tys) (T : sk_T cc t) (ti : Nat) (isC : List Nat) {post : Int32 → Prop} {exn : Nat → Prop} (V : sk_V own index y bytes maxL ret n C) (hR : sk_RX rm R maxL) (hX : sk_X A0 s s.heap) (hA0 : ∀ q : Nat, A q → A0 q) (hB0 : ∀ (k : Nat) (q : Nat × va_E), wc[k]? = some q → A0 q.1) (hM : ∀ sz : Nat, MetX l y (Cond.code y bytes maxL ret :: GW) rm (va_Pc (.ref b :: As) (fun U => sk_PX D tys wc sz U ∧ wpc)) (QXi (fun (r : Int32) (_ : Unit) => post r) exn (fun _ t => sk_B D tys wc (fun _ => True) t) (fun q => sz ≤ q)) 1 6 (fun q => sz ≤ q)) (h : wpc) (hd : t[ti]? = some (pc, .invokevirtual index, 3)) (hp : pc + 3 = pc') (hs : st = As.reverse ++ .ref b :: rest) (hn : As.length = n) (hC : isC.map (fun i => ws[i]?) = wc.map some) (hnd : va_nd isC = true) (hw : (rest.map fun v => v.category).sum ≤ 8) (hcap : cells + 1 ≤ R.cells ∧ slots + 6 ≤ R.slots) {q0 ci : Nat} {fs : List Value} {Tt : u_T} {Nn : Nat} (hrc : wc[q0]? = some (b, .inr (ci, fs))) (hcl : classes[ci]? = some (C, Tt, Nn))
    (kk : ∀ r : Int32, post r → AW p l e R s m args below meth c D A B nL Q cells slots ws lv pc' (.int r :: rest)) (kx : ∀ k : Nat, exn k → AXW p l e R s m args below meth c D A B nL Q (cells + 1) (slots + 6) ws lv pc k) : AW p l e R s m args below meth c D A B nL Q cells slots ws lv pc st := by
  subst hp; subst hs
  intro hA H locs ls hP hD hS hl
  have hat : ∀ (k : Nat) (q : Nat × va_E), wc[k]? = some q → ∃ i : Nat, isC[k]? = some i ∧ ws[i]? = some q := by
    intro k q hq
    have h3 : (isC.map (fun i => ws[i]?))[k]? = some (some q) := by rw [hC, List.getElem?_map, hq]; rfl
    rw [List.getElem?_map] at h3
    cases hi : isC[k]? with
    | none => rw [hi] at h3; cases h3
    | some i => rw [hi] at h3; exact ⟨i, rfl, Option.some.inj h3⟩
  have hPc : va_P D classes wc H := fun k q hq => by
    obtain ⟨i, -, h2⟩ := hat k q hq
    exact hP i q h2
  have hDc : va_D (fun _ => True) wc := by
    refine ⟨fun i j x z hi hj hxz => ?_, fun _ _ _ => trivial⟩
    obtain ⟨i1, h1, h2⟩ := hat i x hi
    obtain ⟨j1, h3, h4⟩ := hat j z hj
    have hij := hD.1 i1 j1 x z h2 h4 hxz
    subst hij
    exact va_nd_inj isC hnd i j i1 h1 h3
  have hsub : ∀ q : Nat, va_A wc H.size q → A0 q := by
    rintro q (⟨k, ee, h9⟩ | h9)
    · exact hB0 k (q, ee) h9
    · exact hA0 q (hA q (Nat.le_trans hS.1 h9))
  have hS0 : va_S A0 s.heap H locs := ⟨hS.1, fun q h1 h2 => hS.2.1 q h1 (fun z => h2 (hA0 q z)), fun q h1 => hA0 _ (hS.2.2 q h1)⟩
  have hr := va_runVX (e := e) (below := below) (rest := rest) K V hR (hM H.size) (H := H) (locs := locs) (As := As) (b := b) (g := F0 m pc ls (As.reverse ++ .ref b :: rest)) ⟨sk_PX.blind, va_recv K.2.2.2.2.2.1 hPc hcl hrc, fun U hU hW => ⟨rfl, ⟨⟨by rw [hU], by rw [hU]; exact hPc, va_K.moved hW.alike K.2.2.2.2.2.1, hDc, K.2.2.2.2.2.2.2.warm hW⟩, hX.to hW hS0 hU hsub⟩, h⟩⟩ rfl hn hl.1 rfl (lv_room hw) (T.at ti hd) hcap
  intro T0 hT0 X0
  rcases hr T0 hT0 X0 with ⟨v, st₀, t1, T', L, h0, X', hL, e1, e2, hq, stp⟩ | ⟨x, st₀, t1, T', L, h0, X', hL, e1, e2, hq, stp⟩
  · rcases hq with ⟨r, u, hv, hpost, hB, hz, hk⟩ | ⟨x, k, hv, -⟩
    · cases hv
      rw [h0] at hz hk
      have hS1 : va_S A s.heap T'.heap (locs ++ L) := ⟨Nat.le_trans hS.1 (by rw [e1]; exact hz), fun q h1 h2 => by rw [e1, hk q (Nat.lt_of_lt_of_le h1 hS.1) (Nat.not_le.mpr (Nat.lt_of_lt_of_le h1 hS.1))]; exact hS.2.1 q h1 h2, fun q hq => by
        rcases List.mem_append.mp hq with h9 | h9
        · exact hS.2.2 q h9
        · exact hA _ (Nat.le_trans hS.1 (hL q h9))⟩
      have hP2 : va_P D classes ws T'.heap := hP.kept (fun k q hq => by rw [e1]; exact hk q.1 (hP k q hq).lt (Nat.not_le.mpr (hP k q hq).lt))
      obtain ⟨t2, a1, b1⟩ := kk r hpost hA T'.heap (locs ++ L) ls hP2 hD hS1 hl T' rfl X'
      exact ⟨t2, stp t2 a1, b1⟩
    · cases hv
  · rcases hq with ⟨r, u, hv, -⟩ | ⟨x', k, hv, hex, hE, hz, hk⟩
    · cases hv
    · cases hv
      rw [h0] at hz hk
      have hS1 : va_S A s.heap T'.heap (locs ++ L) := ⟨Nat.le_trans hS.1 (by rw [e1]; exact hz), fun q h1 h2 => by rw [e1, hk q (Nat.lt_of_lt_of_le h1 hS.1)]; exact hS.2.1 q h1 h2, fun q hq => by
        rcases List.mem_append.mp hq with h9 | h9
        · exact hS.2.2 q h9
        · exact hA _ (Nat.le_trans hS.1 (hL q h9))⟩
      have hP2 : va_P D classes ws T'.heap := hP.kept (fun k q hq => by rw [e1]; exact hk q.1 (hP k q hq).lt)
      obtain ⟨ce, hc1, hc2, hc3⟩ := hE
      obtain ⟨t2, a1, b1⟩ := kx k hex hA T'.heap (locs ++ L) ls rest _ T' rfl X' hP2 hD hS1 hl ⟨ce, by rw [e1]; exact hc1, hc2, by rw [e2]; exact hc3⟩
      exact ⟨t2, stp t2 a1, b1⟩
theorem RX_call_v (K : sk_C p s m args meth c cc nL own D tys) (T : sk_T cc t) (ti : Nat) (isC : List Nat) {post : Prop} {exn : Nat → Prop} (V : sk_V own index y bytes maxL ret n C) (hR : sk_RX rm R maxL) (hX : sk_X A0 s s.heap) (hA0 : ∀ q : Nat, A q → A0 q) (hB0 : ∀ (k : Nat) (q : Nat × va_E), wc[k]? = some q → A0 q.1) (hM : ∀ sz : Nat, MetX l y (Cond.code y bytes maxL ret :: GW) rm (va_Pc (.ref b :: As) (fun U => sk_PX D tys wc sz U ∧ wpc)) (QXv (fun (_ : Unit) => post) exn (fun _ t => sk_B D tys wc (fun _ => True) t) (fun q => sz ≤ q)) 1 6 (fun q => sz ≤ q)) (h : wpc) (hd : t[ti]? = some (pc, .invokevirtual index, 3)) (hp : pc + 3 = pc') (hs : st = As.reverse ++ .ref b :: rest) (hn : As.length = n) (hC : isC.map (fun i => ws[i]?) = wc.map some) (hnd : va_nd isC = true) (hw : (rest.map fun v => v.category).sum ≤ 8) (hcap : cells + 1 ≤ R.cells ∧ slots + 6 ≤ R.slots) {q0 ci : Nat} {fs : List Value} {Tt : u_T} {Nn : Nat} (hrc : wc[q0]? = some (b, .inr (ci, fs))) (hcl : classes[ci]? = some (C, Tt, Nn))
    (kk : post → AW p l e R s m args below meth c D A B nL Q cells slots ws lv pc' (rest)) (kx : ∀ k : Nat, exn k → AXW p l e R s m args below meth c D A B nL Q (cells + 1) (slots + 6) ws lv pc k) : AW p l e R s m args below meth c D A B nL Q cells slots ws lv pc st := by
  subst hp; subst hs
  intro hA H locs ls hP hD hS hl
  have hat : ∀ (k : Nat) (q : Nat × va_E), wc[k]? = some q → ∃ i : Nat, isC[k]? = some i ∧ ws[i]? = some q := by
    intro k q hq
    have h3 : (isC.map (fun i => ws[i]?))[k]? = some (some q) := by rw [hC, List.getElem?_map, hq]; rfl
    rw [List.getElem?_map] at h3
    cases hi : isC[k]? with
    | none => rw [hi] at h3; cases h3
    | some i => rw [hi] at h3; exact ⟨i, rfl, Option.some.inj h3⟩
  have hPc : va_P D classes wc H := fun k q hq => by
    obtain ⟨i, -, h2⟩ := hat k q hq
    exact hP i q h2
  have hDc : va_D (fun _ => True) wc := by
    refine ⟨fun i j x z hi hj hxz => ?_, fun _ _ _ => trivial⟩
    obtain ⟨i1, h1, h2⟩ := hat i x hi
    obtain ⟨j1, h3, h4⟩ := hat j z hj
    have hij := hD.1 i1 j1 x z h2 h4 hxz
    subst hij
    exact va_nd_inj isC hnd i j i1 h1 h3
  have hsub : ∀ q : Nat, va_A wc H.size q → A0 q := by
    rintro q (⟨k, ee, h9⟩ | h9)
    · exact hB0 k (q, ee) h9
    · exact hA0 q (hA q (Nat.le_trans hS.1 h9))
  have hS0 : va_S A0 s.heap H locs := ⟨hS.1, fun q h1 h2 => hS.2.1 q h1 (fun z => h2 (hA0 q z)), fun q h1 => hA0 _ (hS.2.2 q h1)⟩
  have hr := va_runVX (e := e) (below := below) (rest := rest) K V hR (hM H.size) (H := H) (locs := locs) (As := As) (b := b) (g := F0 m pc ls (As.reverse ++ .ref b :: rest)) ⟨sk_PX.blind, va_recv K.2.2.2.2.2.1 hPc hcl hrc, fun U hU hW => ⟨rfl, ⟨⟨by rw [hU], by rw [hU]; exact hPc, va_K.moved hW.alike K.2.2.2.2.2.1, hDc, K.2.2.2.2.2.2.2.warm hW⟩, hX.to hW hS0 hU hsub⟩, h⟩⟩ rfl hn hl.1 rfl (lv_room hw) (T.at ti hd) hcap
  intro T0 hT0 X0
  rcases hr T0 hT0 X0 with ⟨v, st₀, t1, T', L, h0, X', hL, e1, e2, hq, stp⟩ | ⟨x, st₀, t1, T', L, h0, X', hL, e1, e2, hq, stp⟩
  · rcases hq with ⟨u, hv, hpost, hB, hz, hk⟩ | ⟨x, k, hv, -⟩
    · cases hv
      rw [h0] at hz hk
      have hS1 : va_S A s.heap T'.heap (locs ++ L) := ⟨Nat.le_trans hS.1 (by rw [e1]; exact hz), fun q h1 h2 => by rw [e1, hk q (Nat.lt_of_lt_of_le h1 hS.1) (Nat.not_le.mpr (Nat.lt_of_lt_of_le h1 hS.1))]; exact hS.2.1 q h1 h2, fun q hq => by
        rcases List.mem_append.mp hq with h9 | h9
        · exact hS.2.2 q h9
        · exact hA _ (Nat.le_trans hS.1 (hL q h9))⟩
      have hP2 : va_P D classes ws T'.heap := hP.kept (fun k q hq => by rw [e1]; exact hk q.1 (hP k q hq).lt (Nat.not_le.mpr (hP k q hq).lt))
      obtain ⟨t2, a1, b1⟩ := kk hpost hA T'.heap (locs ++ L) ls hP2 hD hS1 hl T' rfl X'
      exact ⟨t2, stp t2 a1, b1⟩
    · cases hv
  · rcases hq with ⟨u, hv, -⟩ | ⟨x', k, hv, hex, hE, hz, hk⟩
    · cases hv
    · cases hv
      rw [h0] at hz hk
      have hS1 : va_S A s.heap T'.heap (locs ++ L) := ⟨Nat.le_trans hS.1 (by rw [e1]; exact hz), fun q h1 h2 => by rw [e1, hk q (Nat.lt_of_lt_of_le h1 hS.1)]; exact hS.2.1 q h1 h2, fun q hq => by
        rcases List.mem_append.mp hq with h9 | h9
        · exact hS.2.2 q h9
        · exact hA _ (Nat.le_trans hS.1 (hL q h9))⟩
      have hP2 : va_P D classes ws T'.heap := hP.kept (fun k q hq => by rw [e1]; exact hk q.1 (hP k q hq).lt)
      obtain ⟨ce, hc1, hc2, hc3⟩ := hE
      obtain ⟨t2, a1, b1⟩ := kx k hex hA T'.heap (locs ++ L) ls rest _ T' rfl X' hP2 hD hS1 hl ⟨ce, by rw [e1]; exact hc1, hc2, by rw [e2]; exact hc3⟩
      exact ⟨t2, stp t2 a1, b1⟩
end TX
abbrev nA (sz : Nat) : Nat → Prop := fun q => sz ≤ q
abbrev nB : Nat → Prop := fun _ => True
theorem sk_inA {w0 wc : va_W} {sz : Nat} {isC : List Nat} (hC : isC.map (fun i => w0[i]?) = wc.map some) : ∀ (k : Nat) (q : Nat × va_E), wc[k]? = some q → va_A w0 sz q.1 := fun k q hq => by
  have h3 : (isC.map (fun i => w0[i]?))[k]? = some (some q) := by rw [hC, List.getElem?_map, hq]; rfl
  rw [List.getElem?_map] at h3
  cases hi : isC[k]? with
  | none => rw [hi] at h3; cases h3
  | some i => rw [hi] at h3; exact va_A.in (Option.some.inj h3)
theorem va_Qi_X {S : Type} {post : Int32 → S → Prop} {exn : Nat → Prop} {Bw : S → State → Prop} {A : Nat → Prop} {a : Array Value} {st t : State} {o : Outcome} (h : va_Qi post Bw A a st o t) : QXi post exn Bw A a st o t := by
  obtain ⟨⟨r, u, e, hp, hb⟩, hF⟩ := h
  exact Or.inl ⟨r, u, e, hp, hb, hF⟩
theorem va_Qv_X {S : Type} {post : S → Prop} {exn : Nat → Prop} {Bw : S → State → Prop} {A : Nat → Prop} {a : Array Value} {st t : State} {o : Outcome} (h : va_Qv post Bw A a st o t) : QXv post exn Bw A a st o t := by
  obtain ⟨⟨u, e, hp, hb⟩, hF⟩ := h
  exact Or.inl ⟨u, e, hp, hb, hF⟩
