/-! ENTRY AND ENDS OF A METHOD -/
def sk_P (D : va_G) (tys : List (ClassId × FieldType)) (w : va_W) (sz : Nat) (U : State) : Prop := U.heap.size = sz ∧ va_P D classes w U.heap ∧ va_K D classes tys U ∧ va_D (fun _ => True) w ∧ sk_N U
def sk_B (D : va_G) (tys : List (ClassId × FieldType)) (w : va_W) (A : Nat → Prop) (t : State) : Prop := va_P D classes w t.heap ∧ va_K D classes tys t ∧ va_D A w
theorem sk_P.blind {D : va_G} {tys : List (ClassId × FieldType)} {w : va_W} {sz : Nat} {av : List Value} {P : Prop} : FrameBlind (va_Pc av (fun U => sk_P D tys w sz U ∧ P)) := fun a U g mk h => by
  obtain ⟨h0, ⟨h1, h2, h3, h4, h6⟩, h5⟩ := h
  exact ⟨h0, ⟨h1, h2, va_K.moved (u := U) (U := U.calling g mk a) (Vm.Alike.refl U.vm) h3, h4, sk_N.same (s := U) (U := U.calling g mk a) rfl h6⟩, h5⟩
theorem sk_intro {l : Launch} {y : MethodName} {cc : ByteArray} {maxL : Nat} {ret : Option FieldType} {rm : Room} {D : va_G} {tys : List (ClassId × FieldType)} {w0 : va_W} {av : List Value} {sz : Nat} {wp : Prop} {Qc : Array Value → State → Outcome → State → Prop} {mc ms : Nat} (hy : plainName y.cls = true) (hlen : (lg_sl av).length ≤ maxL)
    (body : ∀ (p : Program) (e : Env) (s : State) (m : MethodId) (below : List Frame) (meth : Method) (c : Code), sk_C p s m av.toArray meth c cc maxL y.cls D tys → meth.sig.returnType = ret → s.heap.size = sz → wp → AW p l e rm s m av.toArray below meth c D (va_A w0 sz) (va_A w0 sz) maxL (MQ below Qc av.toArray s mc ms (va_A w0 sz)) 0 0 w0 (lv_args 0 av) 0 []) :
    Met l y (Cond.code y cc maxL ret :: GW) rm (va_Pc av (fun U => sk_P D tys w0 sz U ∧ wp)) Qc mc ms (va_A w0 sz) := by
  refine Met.ofW (cc := cc) (maxL := maxL) (ret := ret) hy rfl ?_
  intro p e s m args below meth c s₁ B hml hv
  obtain ⟨rfl, ⟨hsz, hP, hK, hD0, hN⟩, hwp⟩ := hv
  have hts := atoms_spec (ws := Cond.code y cc maxL ret :: GW) B.pre
  have hown : s.vm.findClass y.cls = some m.cls := findClass_of_methodNamed B.named
  have hl := lv_entry av (n := maxL) hlen
  rw [lg_entry_eq]
  generalize (lg_sl av ++ List.replicate (maxL - (lg_sl av).length) Slot.unset).toArray = ls at hl ⊢
  exact body p e s m below meth c ⟨B.exec, B.bytes, hml, hown, fun w hw => hts w (List.mem_cons_of_mem _ hw), hK, B.notSynchronized, hN⟩ B.returns hsz hwp (fun q hq => Or.inr (by rw [← hsz]; exact hq)) s.heap [] ls hP (hD0.self (sz := sz)) va_S.rf hl
/-- .. of a method that writes nothing -/
theorem sk_introR {l : Launch} {y : MethodName} {cc : ByteArray} {maxL : Nat} {ret : Option FieldType} {rm : Room} {D : va_G} {tys : List (ClassId × FieldType)} {w0 : va_W} {av : List Value} {sz : Nat} {wp : Prop} {Qc : Array Value → State → Outcome → State → Prop} {mc ms : Nat} (hy : plainName y.cls = true) (hlen : (lg_sl av).length ≤ maxL)
    (body : ∀ (p : Program) (e : Env) (s : State) (m : MethodId) (below : List Frame) (meth : Method) (c : Code), sk_C p s m av.toArray meth c cc maxL y.cls D tys → meth.sig.returnType = ret → s.heap.size = sz → wp → AW p l e rm s m av.toArray below meth c D (fun q => sz ≤ q) (fun _ => True) maxL (MQ below Qc av.toArray s mc ms (fun q => sz ≤ q)) 0 0 w0 (lv_args 0 av) 0 []) :
    Met l y (Cond.code y cc maxL ret :: GW) rm (va_Pc av (fun U => sk_P D tys w0 sz U ∧ wp)) Qc mc ms (fun q => sz ≤ q) := by
  refine Met.ofW (cc := cc) (maxL := maxL) (ret := ret) hy rfl ?_
  intro p e s m args below meth c s₁ B hml hv
  obtain ⟨rfl, ⟨hsz, hP, hK, hD0, hN⟩, hwp⟩ := hv
  have hts := atoms_spec (ws := Cond.code y cc maxL ret :: GW) B.pre
  have hown : s.vm.findClass y.cls = some m.cls := findClass_of_methodNamed B.named
  have hl := lv_entry av (n := maxL) hlen
  rw [lg_entry_eq]
  generalize (lg_sl av ++ List.replicate (maxL - (lg_sl av).length) Slot.unset).toArray = ls at hl ⊢
  exact body p e s m below meth c ⟨B.exec, B.bytes, hml, hown, fun w hw => hts w (List.mem_cons_of_mem _ hw), hK, B.notSynchronized, hN⟩ B.returns hsz hwp (fun q hq => by rw [← hsz]; exact hq) s.heap [] ls hP hD0 va_S.rf hl
section SKE
variable {p : Program} {l : Launch} {e : Env} {R : Room} {s : State} {m : MethodId} {args : Array Value} {below : List Frame} {meth : Method} {c : Code} {D : va_G} {A B : Nat → Prop} {nL : Nat} {cells slots : Nat} {lv lv' : List (Nat × Value)} {pc pc' : Nat} {st : List Value} {cc : ByteArray} {own : String} {tys : List (ClassId × FieldType)} {t : List (Nat × Instr × Nat)}
theorem A_iret (K : sk_C p s m args meth c cc nL own D tys) (T : sk_T cc t) (ti : Nat) (hr : meth.sig.returnType = some .int) {S : Type} {post : Int32 → S → Prop} {wl : S → va_W} {v : Int32} (u : S) (hd : t[ti]? = some (pc, .ireturn, 1)) (h : post v u) : AW p l e R s m args below meth c D A B nL (MQ below (va_Qi post (fun u t => sk_B D tys (wl u) B t) A) args s cells slots A) cells slots (wl u) lv pc [.int v] :=
  fun hA H locs ls hP hD hS hl => W.iret K.1 K.2.1 hr (fun t ht hW => ⟨⟨v, u, rfl, h, by rw [ht]; exact hP, va_K.moved hW.alike K.2.2.2.2.2.1, hD⟩, hS.F ht⟩) hS.2.2 (T.at ti hd) K.2.2.2.2.2.2.1
theorem A_zret (K : sk_C p s m args meth c cc nL own D tys) (T : sk_T cc t) (ti : Nat) (hr : meth.sig.returnType = some .boolean) {S : Type} {post : Int32 → S → Prop} {wl : S → va_W} {v : Int32} (u : S) (hd : t[ti]? = some (pc, .ireturn, 1)) (hv : sk_b v) (h : post v u) : AW p l e R s m args below meth c D A B nL (MQ below (va_Qi post (fun u t => sk_B D tys (wl u) B t) A) args s cells slots A) cells slots (wl u) lv pc [.int v] :=
  fun hA H locs ls hP hD hS hl => W.zret K.1 K.2.1 hr hv.nar (fun t ht hW => ⟨⟨v, u, rfl, h, by rw [ht]; exact hP, va_K.moved hW.alike K.2.2.2.2.2.1, hD⟩, hS.F ht⟩) hS.2.2 (T.at ti hd) K.2.2.2.2.2.2.1
theorem A_lret (K : sk_C p s m args meth c cc nL own D tys) (T : sk_T cc t) (ti : Nat) (hr : meth.sig.returnType = some .long) {S : Type} {post : Int64 → S → Prop} {wl : S → va_W} {v : Int64} (u : S) (hd : t[ti]? = some (pc, .lreturn, 1)) (h : post v u) : AW p l e R s m args below meth c D A B nL (MQ below (va_Ql post (fun u t => sk_B D tys (wl u) B t) A) args s cells slots A) cells slots (wl u) lv pc [.long v] :=
  fun hA H locs ls hP hD hS hl => W.lret K.1 K.2.1 hr (fun t ht hW => ⟨⟨v, u, rfl, h, by rw [ht]; exact hP, va_K.moved hW.alike K.2.2.2.2.2.1, hD⟩, hS.F ht⟩) hS.2.2 (T.at ti hd) K.2.2.2.2.2.2.1
theorem A_vret (K : sk_C p s m args meth c cc nL own D tys) (T : sk_T cc t) (ti : Nat) (hr : meth.sig.returnType = none) {S : Type} {post : S → Prop} {wl : S → va_W} (u : S) (hd : t[ti]? = some (pc, .return_, 1)) (h : post u) : AW p l e R s m args below meth c D A B nL (MQ below (va_Qv post (fun u t => sk_B D tys (wl u) B t) A) args s cells slots A) cells slots (wl u) lv pc [] :=
  fun hA H locs ls hP hD hS hl => W.vret K.1 K.2.1 hr (fun t ht hW => ⟨⟨u, rfl, h, by rw [ht]; exact hP, va_K.moved hW.alike K.2.2.2.2.2.1, hD⟩, hS.F ht⟩) hS.2.2 (T.at ti hd) K.2.2.2.2.2.2.1
end SKE
/-! CALLS: the callee's cells by their places in the caller's world -/
def sk_mix : va_W → List (Option Nat) → va_W → va_W
  | c :: ws, none :: is, w1 => c :: sk_mix ws is w1
  | c :: ws, some j :: is, w1 => (w1[j]?.getD c) :: sk_mix ws is w1
  | _, _, _ => []
def sk_ix : List Nat → Nat → Nat → Option Nat
  | [], _, _ => none
  | i :: is, k, n => if i = k then some n else sk_ix is k (n + 1)
theorem sk_ix_some : ∀ (is : List Nat) (k n j : Nat), sk_ix is k n = some j → ∃ r : Nat, j = n + r ∧ is[r]? = some k
  | [], k, n, j, h => by simp [sk_ix] at h
  | i :: is, k, n, j, h => by
    unfold sk_ix at h
    by_cases hk : i = k
    · rw [if_pos hk] at h
      cases h
      exact ⟨0, rfl, by simp [hk]⟩
    · rw [if_neg hk] at h
      obtain ⟨r, h1, h2⟩ := sk_ix_some is k (n + 1) j h
      exact ⟨r + 1, by omega, by simpa using h2⟩
theorem sk_ix_none : ∀ (is : List Nat) (k n : Nat), sk_ix is k n = none → k ∉ is
  | [], k, n, _ => List.not_mem_nil
  | i :: is, k, n, h => by
    unfold sk_ix at h
    by_cases hk : i = k
    · rw [if_pos hk] at h; cases h
    · rw [if_neg hk] at h
      exact fun hm => (List.mem_cons.mp hm).elim (fun z => hk z.symm) (sk_ix_none is k (n + 1) h)
theorem sk_mix_at : ∀ (ws : va_W) (mx : List (Option Nat)) (w1 : va_W) (k : Nat) (q : Nat × va_E), (sk_mix ws mx w1)[k]? = some q → ∃ (x : Nat × va_E) (o : Option Nat), ws[k]? = some x ∧ mx[k]? = some o ∧ q = (match o with | none => x | some j => (w1[j]?).getD x)
  | [], mx, w1, k, q, h => by simp [sk_mix] at h
  | c :: ws, [], w1, k, q, h => by simp [sk_mix] at h
  | c :: ws, none :: mx, w1, 0, q, h => by simp [sk_mix] at h; exact ⟨c, none, rfl, rfl, h.symm⟩
  | c :: ws, some j :: mx, w1, 0, q, h => by simp [sk_mix] at h; exact ⟨c, some j, rfl, rfl, h.symm⟩
  | c :: ws, none :: mx, w1, k + 1, q, h => by
    simp only [sk_mix, List.getElem?_cons_succ] at h ⊢
    exact sk_mix_at ws mx w1 k q h
  | c :: ws, some j :: mx, w1, k + 1, q, h => by
    simp only [sk_mix, List.getElem?_cons_succ] at h ⊢
    exact sk_mix_at ws mx w1 k q h
theorem sk_D_adr {A : Nat → Prop} {ws ws' : va_W} (key : ∀ (k : Nat) (q : Nat × va_E), ws'[k]? = some q → ∃ q0 : Nat × va_E, ws[k]? = some q0 ∧ q0.1 = q.1) (hD : va_D A ws) : va_D A ws' := by
  refine ⟨fun i j x y hi hj hxy => ?_, fun k q hk => ?_⟩
  · obtain ⟨x0, h1, h2⟩ := key i x hi
    obtain ⟨y0, h3, h4⟩ := key j y hj
    exact hD.1 i j x0 y0 h1 h3 (h2.trans (hxy.trans h4.symm))
  · obtain ⟨q0, h1, h2⟩ := key k q hk
    rw [← h2]; exact hD.2 k q0 h1
theorem sk_join {A0 : Nat → Prop} {D : va_G} {ws wc w1 : va_W} {H H1 : Heap} {isC : List Nat} {mx : List (Option Nat)} (hP : va_P D classes ws H) (hD : va_D A0 ws) (hC : isC.map (fun i => ws[i]?) = wc.map some) (hmx : (List.range mx.length).map (fun k => sk_ix isC k 0) = mx) (hadr : w1.map (·.1) = wc.map (·.1))
    (hk : ∀ q : Nat, q < H.size → ¬ va_A wc H.size q → H1[q]? = H[q]?) (hP1 : va_P D classes w1 H1) : va_P D classes (sk_mix ws mx w1) H1 ∧ va_D A0 (sk_mix ws mx w1) := by
  have hat : ∀ (k : Nat) (q : Nat × va_E), (sk_mix ws mx w1)[k]? = some q → (∃ (j : Nat) (x : Nat × va_E), w1[j]? = some q ∧ ws[k]? = some x ∧ x.1 = q.1) ∨ (k ∉ isC ∧ ws[k]? = some q) := by
    intro k q hq
    obtain ⟨x, o, h1, h2, h3⟩ := sk_mix_at ws mx w1 k q hq
    have ho : o = sk_ix isC k 0 := by
      have hl := (List.getElem?_eq_some_iff.mp h2).1
      rw [← hmx, List.getElem?_map, List.getElem?_range hl] at h2
      exact (Option.some.inj h2).symm
    cases o with
    | none => exact Or.inr ⟨sk_ix_none isC k 0 ho.symm, by rw [h3]; exact h1⟩
    | some j =>
      obtain ⟨r, hr, hi⟩ := sk_ix_some isC k 0 j ho.symm
      have hjr : j = r := by omega
      subst hjr
      have h4 : (isC.map (fun i => ws[i]?))[j]? = some (some x) := by rw [List.getElem?_map, hi]; exact congrArg some h1
      rw [hC, List.getElem?_map] at h4
      cases hwc : wc[j]? with
      | none => rw [hwc] at h4; cases h4
      | some z =>
        rw [hwc] at h4
        have hz : z = x := Option.some.inj (Option.some.inj h4)
        subst hz
        have h5 : (w1.map (·.1))[j]? = some z.1 := by rw [hadr, List.getElem?_map, hwc]; rfl
        rw [List.getElem?_map] at h5
        cases hw1 : w1[j]? with
        | none => rw [hw1] at h5; cases h5
        | some y =>
          have h3' : q = (w1[j]?).getD z := h3
          rw [hw1] at h5 h3'
          have hy : q = y := h3'
          subst hy
          exact Or.inl ⟨j, z, hw1, h1, (Option.some.inj h5).symm⟩
  refine ⟨fun k q hq => ?_, sk_D_adr (fun k q hq => ?_) hD⟩
  · rcases hat k q hq with ⟨j, x, h1, h2, h3⟩ | ⟨h1, h2⟩
    · exact hP1 j q h1
    · refine (hP k q h2).kept (hk q.1 (hP k q h2).lt ?_)
      rintro (⟨k2, ee, h⟩ | h)
      · have h3 : (isC.map (fun i => ws[i]?))[k2]? = some (some (q.1, ee)) := by rw [hC, List.getElem?_map, h]; rfl
        rw [List.getElem?_map] at h3
        cases hi : isC[k2]? with
        | none => rw [hi] at h3; cases h3
        | some i =>
          rw [hi] at h3
          have hij := hD.1 k i q (q.1, ee) h2 (Option.some.inj h3) rfl
          subst hij
          exact h1 (List.mem_of_getElem? hi)
      · exact absurd (hP k q h2).lt (Nat.not_lt.mpr h)
  · rcases hat k q hq with ⟨j, x, h1, h2, h3⟩ | ⟨h1, h2⟩
    · exact ⟨x, h2, h3⟩
    · exact ⟨q, h2, rfl⟩
/-- what a call site has of the tables -/
def sk_V (own : String) (index : Nat) (y : MethodName) (bytes : ByteArray) (maxL : Nat) (ret : Option FieldType) (n : Nat) (C : String) : Prop :=
  Cond.code y bytes maxL ret ∈ GW ∧ Cond.methodLink own index y ∈ GW ∧ Cond.instanceMethod y ∈ GW ∧ Cond.selects C y y ∈ GW ∧ Cond.initialized y.cls ∈ GW ∧ (y.cls ≠ "java/lang/invoke/MethodHandle" ∧ y.cls ≠ "java/lang/invoke/VarHandle" ∧ (parseMethodDescriptor y.desc).map (fun d => d.parameters.length) = some n)
def sk_S (own : String) (index : Nat) (y : MethodName) (bytes : ByteArray) (maxL : Nat) (ret : Option FieldType) (n : Nat) : Prop :=
  Cond.code y bytes maxL ret ∈ GW ∧ Cond.methodLink own index y ∈ GW ∧ Cond.static y ∈ GW ∧ Cond.initialized y.cls ∈ GW ∧ (y.cls ≠ "java/lang/invoke/MethodHandle" ∧ y.cls ≠ "java/lang/invoke/VarHandle" ∧ (parseMethodDescriptor y.desc).map (fun d => d.parameters.length) = some n)
/-- .. of a private method of a nest mate -/
def sk_SN (own : String) (index : Nat) (y : MethodName) (bytes : ByteArray) (maxL : Nat) (ret : Option FieldType) (n : Nat) : Prop :=
  ∃ host : String, Cond.code y bytes maxL ret ∈ GW ∧ Cond.methodLinkNest own index y host ∈ NW ∧ Cond.static y ∈ GW ∧ Cond.initialized y.cls ∈ GW ∧ (y.cls ≠ "java/lang/invoke/MethodHandle" ∧ y.cls ≠ "java/lang/invoke/VarHandle" ∧ (parseMethodDescriptor y.desc).map (fun d => d.parameters.length) = some n)
section SKC
variable {p : Program} {l : Launch} {e : Env} {R : Room} {s : State} {m : MethodId} {args : Array Value} {below : List Frame} {meth : Method} {c : Code} {D : va_G} {A B : Nat → Prop} {nL : Nat} {Q : State → Prop} {cells slots : Nat} {ws : va_W} {lv lv' : List (Nat × Value)} {pc pc' : Nat} {st rest As : List Value} {cc : ByteArray} {own : String} {tys : List (ClassId × FieldType)} {t : List (Nat × Instr × Nat)} {y : MethodName} {bytes : ByteArray} {maxL n index b : Nat} {ret : Option FieldType} {rm : Room} {wc : va_W} {wpc : Prop} {S : Type} {wl : S → va_W} {C : String}
def sk_R (rm R : Room) (maxL : Nat) : Prop := rm.cells = 0 ∧ rm.slots = 0 ∧ rm.frames + 1 ≤ R.frames ∧ 8 + (maxL + 11) + rm.locals ≤ R.locals
theorem sk_cb (K : sk_C p s m args meth c cc nL own D tys) (V1 : Cond.code y bytes maxL ret ∈ GW) (V2 : Cond.methodLink own index y ∈ GW) (V3 : Cond.initialized y.cls ∈ GW) (V4 : y.cls ≠ "java/lang/invoke/MethodHandle" ∧ y.cls ≠ "java/lang/invoke/VarHandle" ∧ (parseMethodDescriptor y.desc).map (fun d => d.parameters.length) = some n) (hR : sk_R rm R maxL) : CallB R s args own index y bytes maxL ret (Cond.code y bytes maxL ret :: GW) rm 0 0 n :=
  callB_of n K.2.2.2.2.1 (gw_goodc V1) rfl hR.1 hR.2.1 (K.2.2.2.2.1 _ V3) (K.2.2.2.2.1 _ V2) V4 hR.2.2

theorem A_callV_i (K : sk_C p s m args meth c cc nL own D tys) (hBA : ∀ q : Nat, B q → A q) (T : sk_T cc t) (ti : Nat) (isC : List Nat) (mx : List (Option Nat)) {post : Int32 → S → Prop} (V : sk_V own index y bytes maxL ret n C) (hR : sk_R rm R maxL) (hM : ∀ sz : Nat, Met l y (Cond.code y bytes maxL ret :: GW) rm (va_Pc (.ref b :: As) (fun U => sk_P D tys wc sz U ∧ wpc)) (va_Qi post (fun u t => sk_B D tys (wl u) (va_A wc sz) t) (va_A wc sz)) 0 0 (va_A wc sz)) (h : wpc) (hd : t[ti]? = some (pc, .invokevirtual index, 3)) (hp : pc + 3 = pc') (hs : st = As.reverse ++ .ref b :: rest) (hn : As.length = n) (hC : isC.map (fun i => ws[i]?) = wc.map some) (hadr : ∀ u, (wl u).map (·.1) = wc.map (·.1)) (hnd : va_nd isC = true) (hmx : (List.range mx.length).map (fun k => sk_ix isC k 0) = mx) (hw : (rest.map fun v => v.category).sum ≤ 8) (hcap : cells ≤ R.cells ∧ slots ≤ R.slots) {q0 ci : Nat} {fs : List Value} {Tt : u_T} {Nn : Nat} (hrc : wc[q0]? = some (b, .inr (ci, fs))) (hcl : classes[ci]? = some (C, Tt, Nn)) (kk : ∀ (r : Int32) (u : S), post r u → AW p l e R s m args below meth c D A B nL Q cells slots (sk_mix ws mx (wl u)) lv pc' (.int r :: rest)) : AW p l e R s m args below meth c D A B nL Q cells slots ws lv pc st := by
  subst hp; subst hs
  intro hA H locs ls hP hD hS hl
  have hat : ∀ (k : Nat) (q : Nat × va_E), wc[k]? = some q → ∃ i : Nat, isC[k]? = some i ∧ ws[i]? = some q := by
    intro k q hq
    have h3 : (isC.map (fun i => ws[i]?))[k]? = some (some q) := by rw [hC, List.getElem?_map, hq]; rfl
    rw [List.getElem?_map] at h3
    cases hi : isC[k]? with
    | none => rw [hi] at h3; cases h3
    | some i => rw [hi] at h3; exact ⟨i, rfl, Option.some.inj h3⟩
  have hPc : va_P D classes wc H := fun k q hq => by
    obtain ⟨i, -, h2⟩ := hat k q hq
    exact hP i q h2
  have hFc : ∀ q, va_A wc H.size q → A q := by
    rintro q (⟨k, ee, h9⟩ | h9)
    · obtain ⟨i, -, h2⟩ := hat k (q, ee) h9
      exact hBA q (hD.2 i (q, ee) h2)
    · exact hA q (Nat.le_trans hS.1 h9)
  have hDc : va_D (fun _ => True) wc := by
    have hlen : isC.length = wc.length := by simpa using congrArg List.length hC
    refine ⟨fun i j x z hi hj hxz => ?_, fun _ _ _ => trivial⟩
    obtain ⟨i1, h1, h2⟩ := hat i x hi
    obtain ⟨j1, h3, h4⟩ := hat j z hj
    have hij := hD.1 i1 j1 x z h2 h4 hxz
    subst hij
    exact va_nd_inj isC hnd i j i1 h1 h3
  refine va_calli (va_runV (As := As) (rest := rest) ⟨K.1, K.2.1, K.2.2.1, K.2.2.2.1, K.2.2.2.2.1⟩ (hM H.size) ⟨sk_cb K V.1 V.2.1 V.2.2.2.2.1 V.2.2.2.2.2 hR, K.2.2.2.2.1 _ V.2.2.1, K.2.2.2.2.1 _ V.2.2.2.1⟩ ⟨sk_P.blind, va_recv K.2.2.2.2.2.1 hPc hcl hrc, fun U hU hW => ⟨rfl, ⟨by rw [hU], by rw [hU]; exact hPc, va_K.moved hW.alike K.2.2.2.2.2.1, hDc, K.2.2.2.2.2.2.2.warm hW⟩, h⟩⟩ rfl hn hl.1 rfl (lv_room hw) (T.at ti hd) ⟨hcap.1, hcap.2⟩) hS (fun q _ h9 => hFc q h9) hFc (fun r u t H1 locs1 ht hvm hw1 hB hz1 hk1 hS1 => ?_)
  obtain ⟨hP1, hK1, hD1⟩ := hB
  rw [ht] at hP1
  obtain ⟨hP2, hD2⟩ := sk_join hP hD hC hmx (hadr u) hk1 hP1
  exact kk r u hw1 hA H1 locs1 ls hP2 hD2 hS1 hl
theorem R_callV_i (K : sk_C p s m args meth c cc nL own D tys) (T : sk_T cc t) (ti : Nat) (isC : List Nat) {post : Int32 → Prop} (V : sk_V own index y bytes maxL ret n C) (hR : sk_R rm R maxL) (hM : ∀ sz : Nat, Met l y (Cond.code y bytes maxL ret :: GW) rm (va_Pc (.ref b :: As) (fun U => sk_P D tys wc sz U ∧ wpc)) (va_Qi (fun (r : Int32) (_ : Unit) => post r) (fun u t => sk_B D tys wc (fun _ => True) t) (fun q => sz ≤ q)) 0 0 (fun q => sz ≤ q)) (h : wpc) (hd : t[ti]? = some (pc, .invokevirtual index, 3)) (hp : pc + 3 = pc') (hs : st = As.reverse ++ .ref b :: rest) (hn : As.length = n) (hC : isC.map (fun i => ws[i]?) = wc.map some) (hnd : va_nd isC = true) (hw : (rest.map fun v => v.category).sum ≤ 8) (hcap : cells ≤ R.cells ∧ slots ≤ R.slots) {q0 ci : Nat} {fs : List Value} {Tt : u_T} {Nn : Nat} (hrc : wc[q0]? = some (b, .inr (ci, fs))) (hcl : classes[ci]? = some (C, Tt, Nn)) (kk : ∀ (r : Int32), post r → AW p l e R s m args below meth c D A B nL Q cells slots ws lv pc' (.int r :: rest)) : AW p l e R s m args below meth c D A B nL Q cells slots ws lv pc st := by
  subst hp; subst hs
  intro hA H locs ls hP hD hS hl
  have hat : ∀ (k : Nat) (q : Nat × va_E), wc[k]? = some q → ∃ i : Nat, isC[k]? = some i ∧ ws[i]? = some q := by
    intro k q hq
    have h3 : (isC.map (fun i => ws[i]?))[k]? = some (some q) := by rw [hC, List.getElem?_map, hq]; rfl
    rw [List.getElem?_map] at h3
    cases hi : isC[k]? with
    | none => rw [hi] at h3; cases h3
    | some i => rw [hi] at h3; exact ⟨i, rfl, Option.some.inj h3⟩
  have hPc : va_P D classes wc H := fun k q hq => by
    obtain ⟨i, -, h2⟩ := hat k q hq
    exact hP i q h2
  have hDc : va_D (fun _ => True) wc := by
    have hlen : isC.length = wc.length := by simpa using congrArg List.length hC
    refine ⟨fun i j x z hi hj hxz => ?_, fun _ _ _ => trivial⟩
    obtain ⟨i1, h1, h2⟩ := hat i x hi
    obtain ⟨j1, h3, h4⟩ := hat j z hj
    have hij := hD.1 i1 j1 x z h2 h4 hxz
    subst hij
    exact va_nd_inj isC hnd i j i1 h1 h3
  refine va_calli (va_runV (As := As) (rest := rest) ⟨K.1, K.2.1, K.2.2.1, K.2.2.2.1, K.2.2.2.2.1⟩ (hM H.size) ⟨sk_cb K V.1 V.2.1 V.2.2.2.2.1 V.2.2.2.2.2 hR, K.2.2.2.2.1 _ V.2.2.1, K.2.2.2.2.1 _ V.2.2.2.1⟩ ⟨sk_P.blind, va_recv K.2.2.2.2.2.1 hPc hcl hrc, fun U hU hW => ⟨rfl, ⟨by rw [hU], by rw [hU]; exact hPc, va_K.moved hW.alike K.2.2.2.2.2.1, hDc, K.2.2.2.2.2.2.2.warm hW⟩, h⟩⟩ rfl hn hl.1 rfl (lv_room hw) (T.at ti hd) ⟨hcap.1, hcap.2⟩) hS (fun q h8 h9 => absurd h8 (Nat.not_lt.mpr h9)) (fun q h9 => hA q (Nat.le_trans hS.1 h9)) (fun r u t H1 locs1 ht hvm hw1 hB hz1 hk1 hS1 => ?_)
  have hP2 : va_P D classes ws H1 := hP.kept (fun k q hq => hk1 q.1 (hP k q hq).lt (Nat.not_le.mpr (hP k q hq).lt))
  exact kk r hw1 hA H1 locs1 ls hP2 hD hS1 hl
theorem A_callV_l (K : sk_C p s m args meth c cc nL own D tys) (hBA : ∀ q : Nat, B q → A q) (T : sk_T cc t) (ti : Nat) (isC : List Nat) (mx : List (Option Nat)) {post : Int64 → S → Prop} (V : sk_V own index y bytes maxL ret n C) (hR : sk_R rm R maxL) (hM : ∀ sz : Nat, Met l y (Cond.code y bytes maxL ret :: GW) rm (va_Pc (.ref b :: As) (fun U => sk_P D tys wc sz U ∧ wpc)) (va_Ql post (fun u t => sk_B D tys (wl u) (va_A wc sz) t) (va_A wc sz)) 0 0 (va_A wc sz)) (h : wpc) (hd : t[ti]? = some (pc, .invokevirtual index, 3)) (hp : pc + 3 = pc') (hs : st = As.reverse ++ .ref b :: rest) (hn : As.length = n) (hC : isC.map (fun i => ws[i]?) = wc.map some) (hadr : ∀ u, (wl u).map (·.1) = wc.map (·.1)) (hnd : va_nd isC = true) (hmx : (List.range mx.length).map (fun k => sk_ix isC k 0) = mx) (hw : (rest.map fun v => v.category).sum ≤ 8) (hcap : cells ≤ R.cells ∧ slots ≤ R.slots) {q0 ci : Nat} {fs : List Value} {Tt : u_T} {Nn : Nat} (hrc : wc[q0]? = some (b, .inr (ci, fs))) (hcl : classes[ci]? = some (C, Tt, Nn)) (kk : ∀ (r : Int64) (u : S), post r u → AW p l e R s m args below meth c D A B nL Q cells slots (sk_mix ws mx (wl u)) lv pc' (.long r :: rest)) : AW p l e R s m args below meth c D A B nL Q cells slots ws lv pc st := by
  subst hp; subst hs
  intro hA H locs ls hP hD hS hl
  have hat : ∀ (k : Nat) (q : Nat × va_E), wc[k]? = some q → ∃ i : Nat, isC[k]? = some i ∧ ws[i]? = some q := by
    intro k q hq
    have h3 : (isC.map (fun i => ws[i]?))[k]? = some (some q) := by rw [hC, List.getElem?_map, hq]; rfl
    rw [List.getElem?_map] at h3
    cases hi : isC[k]? with
    | none => rw [hi] at h3; cases h3
    | some i => rw [hi] at h3; exact ⟨i, rfl, Option.some.inj h3⟩
  have hPc : va_P D classes wc H := fun k q hq => by
    obtain ⟨i, -, h2⟩ := hat k q hq
    exact hP i q h2
  have hFc : ∀ q, va_A wc H.size q → A q := by
    rintro q (⟨k, ee, h9⟩ | h9)
    · obtain ⟨i, -, h2⟩ := hat k (q, ee) h9
      exact hBA q (hD.2 i (q, ee) h2)
    · exact hA q (Nat.le_trans hS.1 h9)
  have hDc : va_D (fun _ => True) wc := by
    have hlen : isC.length = wc.length := by simpa using congrArg List.length hC
    refine ⟨fun i j x z hi hj hxz => ?_, fun _ _ _ => trivial⟩
    obtain ⟨i1, h1, h2⟩ := hat i x hi
    obtain ⟨j1, h3, h4⟩ := hat j z hj
    have hij := hD.1 i1 j1 x z h2 h4 hxz
    subst hij
    exact va_nd_inj isC hnd i j i1 h1 h3
  refine va_calll (va_runV (As := As) (rest := rest) ⟨K.1, K.2.1, K.2.2.1, K.2.2.2.1, K.2.2.2.2.1⟩ (hM H.size) ⟨sk_cb K V.1 V.2.1 V.2.2.2.2.1 V.2.2.2.2.2 hR, K.2.2.2.2.1 _ V.2.2.1, K.2.2.2.2.1 _ V.2.2.2.1⟩ ⟨sk_P.blind, va_recv K.2.2.2.2.2.1 hPc hcl hrc, fun U hU hW => ⟨rfl, ⟨by rw [hU], by rw [hU]; exact hPc, va_K.moved hW.alike K.2.2.2.2.2.1, hDc, K.2.2.2.2.2.2.2.warm hW⟩, h⟩⟩ rfl hn hl.1 rfl (lv_room hw) (T.at ti hd) ⟨hcap.1, hcap.2⟩) hS (fun q _ h9 => hFc q h9) hFc (fun r u t H1 locs1 ht hvm hw1 hB hz1 hk1 hS1 => ?_)
  obtain ⟨hP1, hK1, hD1⟩ := hB
  rw [ht] at hP1
  obtain ⟨hP2, hD2⟩ := sk_join hP hD hC hmx (hadr u) hk1 hP1
  exact kk r u hw1 hA H1 locs1 ls hP2 hD2 hS1 hl
theorem R_callV_l (K : sk_C p s m args meth c cc nL own D tys) (T : sk_T cc t) (ti : Nat) (isC : List Nat) {post : Int64 → Prop} (V : sk_V own index y bytes maxL ret n C) (hR : sk_R rm R maxL) (hM : ∀ sz : Nat, Met l y (Cond.code y bytes maxL ret :: GW) rm (va_Pc (.ref b :: As) (fun U => sk_P D tys wc sz U ∧ wpc)) (va_Ql (fun (r : Int64) (_ : Unit) => post r) (fun u t => sk_B D tys wc (fun _ => True) t) (fun q => sz ≤ q)) 0 0 (fun q => sz ≤ q)) (h : wpc) (hd : t[ti]? = some (pc, .invokevirtual index, 3)) (hp : pc + 3 = pc') (hs : st = As.reverse ++ .ref b :: rest) (hn : As.length = n) (hC : isC.map (fun i => ws[i]?) = wc.map some) (hnd : va_nd isC = true) (hw : (rest.map fun v => v.category).sum ≤ 8) (hcap : cells ≤ R.cells ∧ slots ≤ R.slots) {q0 ci : Nat} {fs : List Value} {Tt : u_T} {Nn : Nat} (hrc : wc[q0]? = some (b, .inr (ci, fs))) (hcl : classes[ci]? = some (C, Tt, Nn)) (kk : ∀ (r : Int64), post r → AW p l e R s m args below meth c D A B nL Q cells slots ws lv pc' (.long r :: rest)) : AW p l e R s m args below meth c D A B nL Q cells slots ws lv pc st := by
  subst hp; subst hs
  intro hA H locs ls hP hD hS hl
  have hat : ∀ (k : Nat) (q : Nat × va_E), wc[k]? = some q → ∃ i : Nat, isC[k]? = some i ∧ ws[i]? = some q := by
    intro k q hq
    have h3 : (isC.map (fun i => ws[i]?))[k]? = some (some q) := by rw [hC, List.getElem?_map, hq]; rfl
    rw [List.getElem?_map] at h3
    cases hi : isC[k]? with
    | none => rw [hi] at h3; cases h3
    | some i => rw [hi] at h3; exact ⟨i, rfl, Option.some.inj h3⟩
  have hPc : va_P D classes wc H := fun k q hq => by
    obtain ⟨i, -, h2⟩ := hat k q hq
    exact hP i q h2
  have hDc : va_D (fun _ => True) wc := by
    have hlen : isC.length = wc.length := by simpa using congrArg List.length hC
    refine ⟨fun i j x z hi hj hxz => ?_, fun _ _ _ => trivial⟩
    obtain ⟨i1, h1, h2⟩ := hat i x hi
    obtain ⟨j1, h3, h4⟩ := hat j z hj
    have hij := hD.1 i1 j1 x z h2 h4 hxz
    subst hij
    exact va_nd_inj isC hnd i j i1 h1 h3
  refine va_calll (va_runV (As := As) (rest := rest) ⟨K.1, K.2.1, K.2.2.1, K.2.2.2.1, K.2.2.2.2.1⟩ (hM H.size) ⟨sk_cb K V.1 V.2.1 V.2.2.2.2.1 V.2.2.2.2.2 hR, K.2.2.2.2.1 _ V.2.2.1, K.2.2.2.2.1 _ V.2.2.2.1⟩ ⟨sk_P.blind, va_recv K.2.2.2.2.2.1 hPc hcl hrc, fun U hU hW => ⟨rfl, ⟨by rw [hU], by rw [hU]; exact hPc, va_K.moved hW.alike K.2.2.2.2.2.1, hDc, K.2.2.2.2.2.2.2.warm hW⟩, h⟩⟩ rfl hn hl.1 rfl (lv_room hw) (T.at ti hd) ⟨hcap.1, hcap.2⟩) hS (fun q h8 h9 => absurd h8 (Nat.not_lt.mpr h9)) (fun q h9 => hA q (Nat.le_trans hS.1 h9)) (fun r u t H1 locs1 ht hvm hw1 hB hz1 hk1 hS1 => ?_)
  have hP2 : va_P D classes ws H1 := hP.kept (fun k q hq => hk1 q.1 (hP k q hq).lt (Nat.not_le.mpr (hP k q hq).lt))
  exact kk r hw1 hA H1 locs1 ls hP2 hD hS1 hl
theorem A_callV_v (K : sk_C p s m args meth c cc nL own D tys) (hBA : ∀ q : Nat, B q → A q) (T : sk_T cc t) (ti : Nat) (isC : List Nat) (mx : List (Option Nat)) {post : S → Prop} (V : sk_V own index y bytes maxL ret n C) (hR : sk_R rm R maxL) (hM : ∀ sz : Nat, Met l y (Cond.code y bytes maxL ret :: GW) rm (va_Pc (.ref b :: As) (fun U => sk_P D tys wc sz U ∧ wpc)) (va_Qv post (fun u t => sk_B D tys (wl u) (va_A wc sz) t) (va_A wc sz)) 0 0 (va_A wc sz)) (h : wpc) (hd : t[ti]? = some (pc, .invokevirtual index, 3)) (hp : pc + 3 = pc') (hs : st = As.reverse ++ .ref b :: rest) (hn : As.length = n) (hC : isC.map (fun i => ws[i]?) = wc.map some) (hadr : ∀ u, (wl u).map (·.1) = wc.map (·.1)) (hnd : va_nd isC = true) (hmx : (List.range mx.length).map (fun k => sk_ix isC k 0) = mx) (hw : (rest.map fun v => v.category).sum ≤ 8) (hcap : cells ≤ R.cells ∧ slots ≤ R.slots) {q0 ci : Nat} {fs : List Value} {Tt : u_T} {Nn : Nat} (hrc : wc[q0]? = some (b, .inr (ci, fs))) (hcl : classes[ci]? = some (C, Tt, Nn)) (kk : ∀ (u : S), post u → AW p l e R s m args below meth c D A B nL Q cells slots (sk_mix ws mx (wl u)) lv pc' (rest)) : AW p l e R s m args below meth c D A B nL Q cells slots ws lv pc st := by
  subst hp; subst hs
  intro hA H locs ls hP hD hS hl
  have hat : ∀ (k : Nat) (q : Nat × va_E), wc[k]? = some q → ∃ i : Nat, isC[k]? = some i ∧ ws[i]? = some q := by
    intro k q hq
    have h3 : (isC.map (fun i => ws[i]?))[k]? = some (some q) := by rw [hC, List.getElem?_map, hq]; rfl
    rw [List.getElem?_map] at h3
    cases hi : isC[k]? with
    | none => rw [hi] at h3; cases h3
    | some i => rw [hi] at h3; exact ⟨i, rfl, Option.some.inj h3⟩
  have hPc : va_P D classes wc H := fun k q hq => by
    obtain ⟨i, -, h2⟩ := hat k q hq
    exact hP i q h2
  have hFc : ∀ q, va_A wc H.size q → A q := by
    rintro q (⟨k, ee, h9⟩ | h9)
    · obtain ⟨i, -, h2⟩ := hat k (q, ee) h9
      exact hBA q (hD.2 i (q, ee) h2)
    · exact hA q (Nat.le_trans hS.1 h9)
  have hDc : va_D (fun _ => True) wc := by
    have hlen : isC.length = wc.length := by simpa using congrArg List.length hC
    refine ⟨fun i j x z hi hj hxz => ?_, fun _ _ _ => trivial⟩
    obtain ⟨i1, h1, h2⟩ := hat i x hi
    obtain ⟨j1, h3, h4⟩ := hat j z hj
    have hij := hD.1 i1 j1 x z h2 h4 hxz
    subst hij
    exact va_nd_inj isC hnd i j i1 h1 h3
  refine va_callv (va_runV (As := As) (rest := rest) ⟨K.1, K.2.1, K.2.2.1, K.2.2.2.1, K.2.2.2.2.1⟩ (hM H.size) ⟨sk_cb K V.1 V.2.1 V.2.2.2.2.1 V.2.2.2.2.2 hR, K.2.2.2.2.1 _ V.2.2.1, K.2.2.2.2.1 _ V.2.2.2.1⟩ ⟨sk_P.blind, va_recv K.2.2.2.2.2.1 hPc hcl hrc, fun U hU hW => ⟨rfl, ⟨by rw [hU], by rw [hU]; exact hPc, va_K.moved hW.alike K.2.2.2.2.2.1, hDc, K.2.2.2.2.2.2.2.warm hW⟩, h⟩⟩ rfl hn hl.1 rfl (lv_room hw) (T.at ti hd) ⟨hcap.1, hcap.2⟩) hS (fun q _ h9 => hFc q h9) hFc (fun u t H1 locs1 ht hvm hw1 hB hz1 hk1 hS1 => ?_)
  obtain ⟨hP1, hK1, hD1⟩ := hB
  rw [ht] at hP1
  obtain ⟨hP2, hD2⟩ := sk_join hP hD hC hmx (hadr u) hk1 hP1
  exact kk u hw1 hA H1 locs1 ls hP2 hD2 hS1 hl
theorem R_callV_v (K : sk_C p s m args meth c cc nL own D tys) (T : sk_T cc t) (ti : Nat) (isC : List Nat) {post : Prop} (V : sk_V own index y bytes maxL ret n C) (hR : sk_R rm R maxL) (hM : ∀ sz : Nat, Met l y (Cond.code y bytes maxL ret :: GW) rm (va_Pc (.ref b :: As) (fun U => sk_P D tys wc sz U ∧ wpc)) (va_Qv (fun (_ : Unit) => post) (fun u t => sk_B D tys wc (fun _ => True) t) (fun q => sz ≤ q)) 0 0 (fun q => sz ≤ q)) (h : wpc) (hd : t[ti]? = some (pc, .invokevirtual index, 3)) (hp : pc + 3 = pc') (hs : st = As.reverse ++ .ref b :: rest) (hn : As.length = n) (hC : isC.map (fun i => ws[i]?) = wc.map some) (hnd : va_nd isC = true) (hw : (rest.map fun v => v.category).sum ≤ 8) (hcap : cells ≤ R.cells ∧ slots ≤ R.slots) {q0 ci : Nat} {fs : List Value} {Tt : u_T} {Nn : Nat} (hrc : wc[q0]? = some (b, .inr (ci, fs))) (hcl : classes[ci]? = some (C, Tt, Nn)) (kk : post → AW p l e R s m args below meth c D A B nL Q cells slots ws lv pc' (rest)) : AW p l e R s m args below meth c D A B nL Q cells slots ws lv pc st := by
  subst hp; subst hs
  intro hA H locs ls hP hD hS hl
  have hat : ∀ (k : Nat) (q : Nat × va_E), wc[k]? = some q → ∃ i : Nat, isC[k]? = some i ∧ ws[i]? = some q := by
    intro k q hq
    have h3 : (isC.map (fun i => ws[i]?))[k]? = some (some q) := by rw [hC, List.getElem?_map, hq]; rfl
    rw [List.getElem?_map] at h3
    cases hi : isC[k]? with
    | none => rw [hi] at h3; cases h3
    | some i => rw [hi] at h3; exact ⟨i, rfl, Option.some.inj h3⟩
  have hPc : va_P D classes wc H := fun k q hq => by
    obtain ⟨i, -, h2⟩ := hat k q hq
    exact hP i q h2
  have hDc : va_D (fun _ => True) wc := by
    have hlen : isC.length = wc.length := by simpa using congrArg List.length hC
    refine ⟨fun i j x z hi hj hxz => ?_, fun _ _ _ => trivial⟩
    obtain ⟨i1, h1, h2⟩ := hat i x hi
    obtain ⟨j1, h3, h4⟩ := hat j z hj
    have hij := hD.1 i1 j1 x z h2 h4 hxz
    subst hij
    exact va_nd_inj isC hnd i j i1 h1 h3
  refine va_callv (va_runV (As := As) (rest := rest) ⟨K.1, K.2.1, K.2.2.1, K.2.2.2.1, K.2.2.2.2.1⟩ (hM H.size) ⟨sk_cb K V.1 V.2.1 V.2.2.2.2.1 V.2.2.2.2.2 hR, K.2.2.2.2.1 _ V.2.2.1, K.2.2.2.2.1 _ V.2.2.2.1⟩ ⟨sk_P.blind, va_recv K.2.2.2.2.2.1 hPc hcl hrc, fun U hU hW => ⟨rfl, ⟨by rw [hU], by rw [hU]; exact hPc, va_K.moved hW.alike K.2.2.2.2.2.1, hDc, K.2.2.2.2.2.2.2.warm hW⟩, h⟩⟩ rfl hn hl.1 rfl (lv_room hw) (T.at ti hd) ⟨hcap.1, hcap.2⟩) hS (fun q h8 h9 => absurd h8 (Nat.not_lt.mpr h9)) (fun q h9 => hA q (Nat.le_trans hS.1 h9)) (fun u t H1 locs1 ht hvm hw1 hB hz1 hk1 hS1 => ?_)
  have hP2 : va_P D classes ws H1 := hP.kept (fun k q hq => hk1 q.1 (hP k q hq).lt (Nat.not_le.mpr (hP k q hq).lt))
  exact kk hw1 hA H1 locs1 ls hP2 hD hS1 hl
theorem A_callS_i (K : sk_C p s m args meth c cc nL own D tys) (hBA : ∀ q : Nat, B q → A q) (T : sk_T cc t) (ti : Nat) (isC : List Nat) (mx : List (Option Nat)) {post : Int32 → S → Prop} (V : sk_S own index y bytes maxL ret n) (hR : sk_R rm R maxL) (hM : ∀ sz : Nat, Met l y (Cond.code y bytes maxL ret :: GW) rm (va_Pc (As) (fun U => sk_P D tys wc sz U ∧ wpc)) (va_Qi post (fun u t => sk_B D tys (wl u) (va_A wc sz) t) (va_A wc sz)) 0 0 (va_A wc sz)) (h : wpc) (hd : t[ti]? = some (pc, .invokestatic index, 3)) (hp : pc + 3 = pc') (hs : st = As.reverse ++ rest) (hn : As.length = n) (hC : isC.map (fun i => ws[i]?) = wc.map some) (hadr : ∀ u, (wl u).map (·.1) = wc.map (·.1)) (hnd : va_nd isC = true) (hmx : (List.range mx.length).map (fun k => sk_ix isC k 0) = mx) (hw : (rest.map fun v => v.category).sum ≤ 8) (hcap : cells ≤ R.cells ∧ slots ≤ R.slots) (kk : ∀ (r : Int32) (u : S), post r u → AW p l e R s m args below meth c D A B nL Q cells slots (sk_mix ws mx (wl u)) lv pc' (.int r :: rest)) : AW p l e R s m args below meth c D A B nL Q cells slots ws lv pc st := by
  subst hp; subst hs
  intro hA H locs ls hP hD hS hl
  have hat : ∀ (k : Nat) (q : Nat × va_E), wc[k]? = some q → ∃ i : Nat, isC[k]? = some i ∧ ws[i]? = some q := by
    intro k q hq
    have h3 : (isC.map (fun i => ws[i]?))[k]? = some (some q) := by rw [hC, List.getElem?_map, hq]; rfl
    rw [List.getElem?_map] at h3
    cases hi : isC[k]? with
    | none => rw [hi] at h3; cases h3
    | some i => rw [hi] at h3; exact ⟨i, rfl, Option.some.inj h3⟩
  have hPc : va_P D classes wc H := fun k q hq => by
    obtain ⟨i, -, h2⟩ := hat k q hq
    exact hP i q h2
  have hFc : ∀ q, va_A wc H.size q → A q := by
    rintro q (⟨k, ee, h9⟩ | h9)
    · obtain ⟨i, -, h2⟩ := hat k (q, ee) h9
      exact hBA q (hD.2 i (q, ee) h2)
    · exact hA q (Nat.le_trans hS.1 h9)
  have hDc : va_D (fun _ => True) wc := by
    have hlen : isC.length = wc.length := by simpa using congrArg List.length hC
    refine ⟨fun i j x z hi hj hxz => ?_, fun _ _ _ => trivial⟩
    obtain ⟨i1, h1, h2⟩ := hat i x hi
    obtain ⟨j1, h3, h4⟩ := hat j z hj
    have hij := hD.1 i1 j1 x z h2 h4 hxz
    subst hij
    exact va_nd_inj isC hnd i j i1 h1 h3
  refine va_calli (va_runS (As := As) (rest := rest) ⟨K.1, K.2.1, K.2.2.1, K.2.2.2.1, K.2.2.2.2.1⟩ (hM H.size) ⟨sk_cb K V.1 V.2.1 V.2.2.2.1 V.2.2.2.2 hR, K.2.2.2.2.1 _ V.2.2.1⟩ ⟨sk_P.blind, fun U hU hW => ⟨rfl, ⟨by rw [hU], by rw [hU]; exact hPc, va_K.moved hW.alike K.2.2.2.2.2.1, hDc, K.2.2.2.2.2.2.2.warm hW⟩, h⟩⟩ rfl hn hl.1 rfl (lv_room hw) (T.at ti hd) ⟨hcap.1, hcap.2⟩) hS (fun q _ h9 => hFc q h9) hFc (fun r u t H1 locs1 ht hvm hw1 hB hz1 hk1 hS1 => ?_)
  obtain ⟨hP1, hK1, hD1⟩ := hB
  rw [ht] at hP1
  obtain ⟨hP2, hD2⟩ := sk_join hP hD hC hmx (hadr u) hk1 hP1
  exact kk r u hw1 hA H1 locs1 ls hP2 hD2 hS1 hl
theorem R_callS_i (K : sk_C p s m args meth c cc nL own D tys) (T : sk_T cc t) (ti : Nat) (isC : List Nat) {post : Int32 → Prop} (V : sk_S own index y bytes maxL ret n) (hR : sk_R rm R maxL) (hM : ∀ sz : Nat, Met l y (Cond.code y bytes maxL ret :: GW) rm (va_Pc (As) (fun U => sk_P D tys wc sz U ∧ wpc)) (va_Qi (fun (r : Int32) (_ : Unit) => post r) (fun u t => sk_B D tys wc (fun _ => True) t) (fun q => sz ≤ q)) 0 0 (fun q => sz ≤ q)) (h : wpc) (hd : t[ti]? = some (pc, .invokestatic index, 3)) (hp : pc + 3 = pc') (hs : st = As.reverse ++ rest) (hn : As.length = n) (hC : isC.map (fun i => ws[i]?) = wc.map some) (hnd : va_nd isC = true) (hw : (rest.map fun v => v.category).sum ≤ 8) (hcap : cells ≤ R.cells ∧ slots ≤ R.slots) (kk : ∀ (r : Int32), post r → AW p l e R s m args below meth c D A B nL Q cells slots ws lv pc' (.int r :: rest)) : AW p l e R s m args below meth c D A B nL Q cells slots ws lv pc st := by
  subst hp; subst hs
  intro hA H locs ls hP hD hS hl
  have hat : ∀ (k : Nat) (q : Nat × va_E), wc[k]? = some q → ∃ i : Nat, isC[k]? = some i ∧ ws[i]? = some q := by
    intro k q hq
    have h3 : (isC.map (fun i => ws[i]?))[k]? = some (some q) := by rw [hC, List.getElem?_map, hq]; rfl
    rw [List.getElem?_map] at h3
    cases hi : isC[k]? with
    | none => rw [hi] at h3; cases h3
    | some i => rw [hi] at h3; exact ⟨i, rfl, Option.some.inj h3⟩
  have hPc : va_P D classes wc H := fun k q hq => by
    obtain ⟨i, -, h2⟩ := hat k q hq
    exact hP i q h2
  have hDc : va_D (fun _ => True) wc := by
    have hlen : isC.length = wc.length := by simpa using congrArg List.length hC
    refine ⟨fun i j x z hi hj hxz => ?_, fun _ _ _ => trivial⟩
    obtain ⟨i1, h1, h2⟩ := hat i x hi
    obtain ⟨j1, h3, h4⟩ := hat j z hj
    have hij := hD.1 i1 j1 x z h2 h4 hxz
    subst hij
    exact va_nd_inj isC hnd i j i1 h1 h3
  refine va_calli (va_runS (As := As) (rest := rest) ⟨K.1, K.2.1, K.2.2.1, K.2.2.2.1, K.2.2.2.2.1⟩ (hM H.size) ⟨sk_cb K V.1 V.2.1 V.2.2.2.1 V.2.2.2.2 hR, K.2.2.2.2.1 _ V.2.2.1⟩ ⟨sk_P.blind, fun U hU hW => ⟨rfl, ⟨by rw [hU], by rw [hU]; exact hPc, va_K.moved hW.alike K.2.2.2.2.2.1, hDc, K.2.2.2.2.2.2.2.warm hW⟩, h⟩⟩ rfl hn hl.1 rfl (lv_room hw) (T.at ti hd) ⟨hcap.1, hcap.2⟩) hS (fun q h8 h9 => absurd h8 (Nat.not_lt.mpr h9)) (fun q h9 => hA q (Nat.le_trans hS.1 h9)) (fun r u t H1 locs1 ht hvm hw1 hB hz1 hk1 hS1 => ?_)
  have hP2 : va_P D classes ws H1 := hP.kept (fun k q hq => hk1 q.1 (hP k q hq).lt (Nat.not_le.mpr (hP k q hq).lt))
  exact kk r hw1 hA H1 locs1 ls hP2 hD hS1 hl
theorem A_callS_l (K : sk_C p s m args meth c cc nL own D tys) (hBA : ∀ q : Nat, B q → A q) (T : sk_T cc t) (ti : Nat) (isC : List Nat) (mx : List (Option Nat)) {post : Int64 → S → Prop} (V : sk_S own index y bytes maxL ret n) (hR : sk_R rm R maxL) (hM : ∀ sz : Nat, Met l y (Cond.code y bytes maxL ret :: GW) rm (va_Pc (As) (fun U => sk_P D tys wc sz U ∧ wpc)) (va_Ql post (fun u t => sk_B D tys (wl u) (va_A wc sz) t) (va_A wc sz)) 0 0 (va_A wc sz)) (h : wpc) (hd : t[ti]? = some (pc, .invokestatic index, 3)) (hp : pc + 3 = pc') (hs : st = As.reverse ++ rest) (hn : As.length = n) (hC : isC.map (fun i => ws[i]?) = wc.map some) (hadr : ∀ u, (wl u).map (·.1) = wc.map (·.1)) (hnd : va_nd isC = true) (hmx : (List.range mx.length).map (fun k => sk_ix isC k 0) = mx) (hw : (rest.map fun v => v.category).sum ≤ 8) (hcap : cells ≤ R.cells ∧ slots ≤ R.slots) (kk : ∀ (r : Int64) (u : S), post r u → AW p l e R s m args below meth c D A B nL Q cells slots (sk_mix ws mx (wl u)) lv pc' (.long r :: rest)) : AW p l e R s m args below meth c D A B nL Q cells slots ws lv pc st := by
  subst hp; subst hs
  intro hA H locs ls hP hD hS hl
  have hat : ∀ (k : Nat) (q : Nat × va_E), wc[k]? = some q → ∃ i : Nat, isC[k]? = some i ∧ ws[i]? = some q := by
    intro k q hq
    have h3 : (isC.map (fun i => ws[i]?))[k]? = some (some q) := by rw [hC, List.getElem?_map, hq]; rfl
    rw [List.getElem?_map] at h3
    cases hi : isC[k]? with
    | none => rw [hi] at h3; cases h3
    | some i => rw [hi] at h3; exact ⟨i, rfl, Option.some.inj h3⟩
  have hPc : va_P D classes wc H := fun k q hq => by
    obtain ⟨i, -, h2⟩ := hat k q hq
    exact hP i q h2
  have hFc : ∀ q, va_A wc H.size q → A q := by
    rintro q (⟨k, ee, h9⟩ | h9)
    · obtain ⟨i, -, h2⟩ := hat k (q, ee) h9
      exact hBA q (hD.2 i (q, ee) h2)
    · exact hA q (Nat.le_trans hS.1 h9)
  have hDc : va_D (fun _ => True) wc := by
    have hlen : isC.length = wc.length := by simpa using congrArg List.length hC
    refine ⟨fun i j x z hi hj hxz => ?_, fun _ _ _ => trivial⟩
    obtain ⟨i1, h1, h2⟩ := hat i x hi
    obtain ⟨j1, h3, h4⟩ := hat j z hj
    have hij := hD.1 i1 j1 x z h2 h4 hxz
    subst hij
    exact va_nd_inj isC hnd i j i1 h1 h3
  refine va_calll (va_runS (As := As) (rest := rest) ⟨K.1, K.2.1, K.2.2.1, K.2.2.2.1, K.2.2.2.2.1⟩ (hM H.size) ⟨sk_cb K V.1 V.2.1 V.2.2.2.1 V.2.2.2.2 hR, K.2.2.2.2.1 _ V.2.2.1⟩ ⟨sk_P.blind, fun U hU hW => ⟨rfl, ⟨by rw [hU], by rw [hU]; exact hPc, va_K.moved hW.alike K.2.2.2.2.2.1, hDc, K.2.2.2.2.2.2.2.warm hW⟩, h⟩⟩ rfl hn hl.1 rfl (lv_room hw) (T.at ti hd) ⟨hcap.1, hcap.2⟩) hS (fun q _ h9 => hFc q h9) hFc (fun r u t H1 locs1 ht hvm hw1 hB hz1 hk1 hS1 => ?_)
  obtain ⟨hP1, hK1, hD1⟩ := hB
  rw [ht] at hP1
  obtain ⟨hP2, hD2⟩ := sk_join hP hD hC hmx (hadr u) hk1 hP1
  exact kk r u hw1 hA H1 locs1 ls hP2 hD2 hS1 hl
theorem R_callS_l (K : sk_C p s m args meth c cc nL own D tys) (T : sk_T cc t) (ti : Nat) (isC : List Nat) {post : Int64 → Prop} (V : sk_S own index y bytes maxL ret n) (hR : sk_R rm R maxL) (hM : ∀ sz : Nat, Met l y (Cond.code y bytes maxL ret :: GW) rm (va_Pc (As) (fun U => sk_P D tys wc sz U ∧ wpc)) (va_Ql (fun (r : Int64) (_ : Unit) => post r) (fun u t => sk_B D tys wc (fun _ => True) t) (fun q => sz ≤ q)) 0 0 (fun q => sz ≤ q)) (h : wpc) (hd : t[ti]? = some (pc, .invokestatic index, 3)) (hp : pc + 3 = pc') (hs : st = As.reverse ++ rest) (hn : As.length = n) (hC : isC.map (fun i => ws[i]?) = wc.map some) (hnd : va_nd isC = true) (hw : (rest.map fun v => v.category).sum ≤ 8) (hcap : cells ≤ R.cells ∧ slots ≤ R.slots) (kk : ∀ (r : Int64), post r → AW p l e R s m args below meth c D A B nL Q cells slots ws lv pc' (.long r :: rest)) : AW p l e R s m args below meth c D A B nL Q cells slots ws lv pc st := by
  subst hp; subst hs
  intro hA H locs ls hP hD hS hl
  have hat : ∀ (k : Nat) (q : Nat × va_E), wc[k]? = some q → ∃ i : Nat, isC[k]? = some i ∧ ws[i]? = some q := by
    intro k q hq
    have h3 : (isC.map (fun i => ws[i]?))[k]? = some (some q) := by rw [hC, List.getElem?_map, hq]; rfl
    rw [List.getElem?_map] at h3
    cases hi : isC[k]? with
    | none => rw [hi] at h3; cases h3
    | some i => rw [hi] at h3; exact ⟨i, rfl, Option.some.inj h3⟩
  have hPc : va_P D classes wc H := fun k q hq => by
    obtain ⟨i, -, h2⟩ := hat k q hq
    exact hP i q h2
  have hDc : va_D (fun _ => True) wc := by
    have hlen : isC.length = wc.length := by simpa using congrArg List.length hC
    refine ⟨fun i j x z hi hj hxz => ?_, fun _ _ _ => trivial⟩
    obtain ⟨i1, h1, h2⟩ := hat i x hi
    obtain ⟨j1, h3, h4⟩ := hat j z hj
    have hij := hD.1 i1 j1 x z h2 h4 hxz
    subst hij
    exact va_nd_inj isC hnd i j i1 h1 h3
  refine va_calll (va_runS (As := As) (rest := rest) ⟨K.1, K.2.1, K.2.2.1, K.2.2.2.1, K.2.2.2.2.1⟩ (hM H.size) ⟨sk_cb K V.1 V.2.1 V.2.2.2.1 V.2.2.2.2 hR, K.2.2.2.2.1 _ V.2.2.1⟩ ⟨sk_P.blind, fun U hU hW => ⟨rfl, ⟨by rw [hU], by rw [hU]; exact hPc, va_K.moved hW.alike K.2.2.2.2.2.1, hDc, K.2.2.2.2.2.2.2.warm hW⟩, h⟩⟩ rfl hn hl.1 rfl (lv_room hw) (T.at ti hd) ⟨hcap.1, hcap.2⟩) hS (fun q h8 h9 => absurd h8 (Nat.not_lt.mpr h9)) (fun q h9 => hA q (Nat.le_trans hS.1 h9)) (fun r u t H1 locs1 ht hvm hw1 hB hz1 hk1 hS1 => ?_)
  have hP2 : va_P D classes ws H1 := hP.kept (fun k q hq => hk1 q.1 (hP k q hq).lt (Nat.not_le.mpr (hP k q hq).lt))
  exact kk r hw1 hA H1 locs1 ls hP2 hD hS1 hl
theorem A_callS_v (K : sk_C p s m args meth c cc nL own D tys) (hBA : ∀ q : Nat, B q → A q) (T : sk_T cc t) (ti : Nat) (isC : List Nat) (mx : List (Option Nat)) {post : S → Prop} (V : sk_S own index y bytes maxL ret n) (hR : sk_R rm R maxL) (hM : ∀ sz : Nat, Met l y (Cond.code y bytes maxL ret :: GW) rm (va_Pc (As) (fun U => sk_P D tys wc sz U ∧ wpc)) (va_Qv post (fun u t => sk_B D tys (wl u) (va_A wc sz) t) (va_A wc sz)) 0 0 (va_A wc sz)) (h : wpc) (hd : t[ti]? = some (pc, .invokestatic index, 3)) (hp : pc + 3 = pc') (hs : st = As.reverse ++ rest) (hn : As.length = n) (hC : isC.map (fun i => ws[i]?) = wc.map some) (hadr : ∀ u, (wl u).map (·.1) = wc.map (·.1)) (hnd : va_nd isC = true) (hmx : (List.range mx.length).map (fun k => sk_ix isC k 0) = mx) (hw : (rest.map fun v => v.category).sum ≤ 8) (hcap : cells ≤ R.cells ∧ slots ≤ R.slots) (kk : ∀ (u : S), post u → AW p l e R s m args below meth c D A B nL Q cells slots (sk_mix ws mx (wl u)) lv pc' (rest)) : AW p l e R s m args below meth c D A B nL Q cells slots ws lv pc st := by
  subst hp; subst hs
  intro hA H locs ls hP hD hS hl
  have hat : ∀ (k : Nat) (q : Nat × va_E), wc[k]? = some q → ∃ i : Nat, isC[k]? = some i ∧ ws[i]? = some q := by
    intro k q hq
    have h3 : (isC.map (fun i => ws[i]?))[k]? = some (some q) := by rw [hC, List.getElem?_map, hq]; rfl
    rw [List.getElem?_map] at h3
    cases hi : isC[k]? with
    | none => rw [hi] at h3; cases h3
    | some i => rw [hi] at h3; exact ⟨i, rfl, Option.some.inj h3⟩
  have hPc : va_P D classes wc H := fun k q hq => by
    obtain ⟨i, -, h2⟩ := hat k q hq
    exact hP i q h2
  have hFc : ∀ q, va_A wc H.size q → A q := by
    rintro q (⟨k, ee, h9⟩ | h9)
    · obtain ⟨i, -, h2⟩ := hat k (q, ee) h9
      exact hBA q (hD.2 i (q, ee) h2)
    · exact hA q (Nat.le_trans hS.1 h9)
  have hDc : va_D (fun _ => True) wc := by
    have hlen : isC.length = wc.length := by simpa using congrArg List.length hC
    refine ⟨fun i j x z hi hj hxz => ?_, fun _ _ _ => trivial⟩
    obtain ⟨i1, h1, h2⟩ := hat i x hi
    obtain ⟨j1, h3, h4⟩ := hat j z hj
    have hij := hD.1 i1 j1 x z h2 h4 hxz
    subst hij
    exact va_nd_inj isC hnd i j i1 h1 h3
  refine va_callv (va_runS (As := As) (rest := rest) ⟨K.1, K.2.1, K.2.2.1, K.2.2.2.1, K.2.2.2.2.1⟩ (hM H.size) ⟨sk_cb K V.1 V.2.1 V.2.2.2.1 V.2.2.2.2 hR, K.2.2.2.2.1 _ V.2.2.1⟩ ⟨sk_P.blind, fun U hU hW => ⟨rfl, ⟨by rw [hU], by rw [hU]; exact hPc, va_K.moved hW.alike K.2.2.2.2.2.1, hDc, K.2.2.2.2.2.2.2.warm hW⟩, h⟩⟩ rfl hn hl.1 rfl (lv_room hw) (T.at ti hd) ⟨hcap.1, hcap.2⟩) hS (fun q _ h9 => hFc q h9) hFc (fun u t H1 locs1 ht hvm hw1 hB hz1 hk1 hS1 => ?_)
  obtain ⟨hP1, hK1, hD1⟩ := hB
  rw [ht] at hP1
  obtain ⟨hP2, hD2⟩ := sk_join hP hD hC hmx (hadr u) hk1 hP1
  exact kk u hw1 hA H1 locs1 ls hP2 hD2 hS1 hl
theorem R_callS_v (K : sk_C p s m args meth c cc nL own D tys) (T : sk_T cc t) (ti : Nat) (isC : List Nat) {post : Prop} (V : sk_S own index y bytes maxL ret n) (hR : sk_R rm R maxL) (hM : ∀ sz : Nat, Met l y (Cond.code y bytes maxL ret :: GW) rm (va_Pc (As) (fun U => sk_P D tys wc sz U ∧ wpc)) (va_Qv (fun (_ : Unit) => post) (fun u t => sk_B D tys wc (fun _ => True) t) (fun q => sz ≤ q)) 0 0 (fun q => sz ≤ q)) (h : wpc) (hd : t[ti]? = some (pc, .invokestatic index, 3)) (hp : pc + 3 = pc') (hs : st = As.reverse ++ rest) (hn : As.length = n) (hC : isC.map (fun i => ws[i]?) = wc.map some) (hnd : va_nd isC = true) (hw : (rest.map fun v => v.category).sum ≤ 8) (hcap : cells ≤ R.cells ∧ slots ≤ R.slots) (kk : post → AW p l e R s m args below meth c D A B nL Q cells slots ws lv pc' (rest)) : AW p l e R s m args below meth c D A B nL Q cells slots ws lv pc st := by
  subst hp; subst hs
  intro hA H locs ls hP hD hS hl
  have hat : ∀ (k : Nat) (q : Nat × va_E), wc[k]? = some q → ∃ i : Nat, isC[k]? = some i ∧ ws[i]? = some q := by
    intro k q hq
    have h3 : (isC.map (fun i => ws[i]?))[k]? = some (some q) := by rw [hC, List.getElem?_map, hq]; rfl
    rw [List.getElem?_map] at h3
    cases hi : isC[k]? with
    | none => rw [hi] at h3; cases h3
    | some i => rw [hi] at h3; exact ⟨i, rfl, Option.some.inj h3⟩
  have hPc : va_P D classes wc H := fun k q hq => by
    obtain ⟨i, -, h2⟩ := hat k q hq
    exact hP i q h2
  have hDc : va_D (fun _ => True) wc := by
    have hlen : isC.length = wc.length := by simpa using congrArg List.length hC
    refine ⟨fun i j x z hi hj hxz => ?_, fun _ _ _ => trivial⟩
    obtain ⟨i1, h1, h2⟩ := hat i x hi
    obtain ⟨j1, h3, h4⟩ := hat j z hj
    have hij := hD.1 i1 j1 x z h2 h4 hxz
    subst hij
    exact va_nd_inj isC hnd i j i1 h1 h3
  refine va_callv (va_runS (As := As) (rest := rest) ⟨K.1, K.2.1, K.2.2.1, K.2.2.2.1, K.2.2.2.2.1⟩ (hM H.size) ⟨sk_cb K V.1 V.2.1 V.2.2.2.1 V.2.2.2.2 hR, K.2.2.2.2.1 _ V.2.2.1⟩ ⟨sk_P.blind, fun U hU hW => ⟨rfl, ⟨by rw [hU], by rw [hU]; exact hPc, va_K.moved hW.alike K.2.2.2.2.2.1, hDc, K.2.2.2.2.2.2.2.warm hW⟩, h⟩⟩ rfl hn hl.1 rfl (lv_room hw) (T.at ti hd) ⟨hcap.1, hcap.2⟩) hS (fun q h8 h9 => absurd h8 (Nat.not_lt.mpr h9)) (fun q h9 => hA q (Nat.le_trans hS.1 h9)) (fun u t H1 locs1 ht hvm hw1 hB hz1 hk1 hS1 => ?_)
  have hP2 : va_P D classes ws H1 := hP.kept (fun k q hq => hk1 q.1 (hP k q hq).lt (Nat.not_le.mpr (hP k q hq).lt))
  exact kk hw1 hA H1 locs1 ls hP2 hD hS1 hl
theorem A_callSN_i (K : sk_C p s m args meth c cc nL own D tys) (hBA : ∀ q : Nat, B q → A q) (T : sk_T cc t) (ti : Nat) (isC : List Nat) (mx : List (Option Nat)) {post : Int32 → S → Prop} (V : sk_SN own index y bytes maxL ret n) (hR : sk_R rm R maxL) (hM : ∀ sz : Nat, Met l y (Cond.code y bytes maxL ret :: GW) rm (va_Pc (As) (fun U => sk_P D tys wc sz U ∧ wpc)) (va_Qi post (fun u t => sk_B D tys (wl u) (va_A wc sz) t) (va_A wc sz)) 0 0 (va_A wc sz)) (h : wpc) (hd : t[ti]? = some (pc, .invokestatic index, 3)) (hp : pc + 3 = pc') (hs : st = As.reverse ++ rest) (hn : As.length = n) (hC : isC.map (fun i => ws[i]?) = wc.map some) (hadr : ∀ u, (wl u).map (·.1) = wc.map (·.1)) (hnd : va_nd isC = true) (hmx : (List.range mx.length).map (fun k => sk_ix isC k 0) = mx) (hw : (rest.map fun v => v.category).sum ≤ 8) (hcap : cells ≤ R.cells ∧ slots ≤ R.slots) (kk : ∀ (r : Int32) (u : S), post r u → AW p l e R s m args below meth c D A B nL Q cells slots (sk_mix ws mx (wl u)) lv pc' (.int r :: rest)) : AW p l e R s m args below meth c D A B nL Q cells slots ws lv pc st := by
  subst hp; subst hs
  intro hA H locs ls hP hD hS hl
  have hat : ∀ (k : Nat) (q : Nat × va_E), wc[k]? = some q → ∃ i : Nat, isC[k]? = some i ∧ ws[i]? = some q := by
    intro k q hq
    have h3 : (isC.map (fun i => ws[i]?))[k]? = some (some q) := by rw [hC, List.getElem?_map, hq]; rfl
    rw [List.getElem?_map] at h3
    cases hi : isC[k]? with
    | none => rw [hi] at h3; cases h3
    | some i => rw [hi] at h3; exact ⟨i, rfl, Option.some.inj h3⟩
  have hPc : va_P D classes wc H := fun k q hq => by
    obtain ⟨i, -, h2⟩ := hat k q hq
    exact hP i q h2
  have hFc : ∀ q, va_A wc H.size q → A q := by
    rintro q (⟨k, ee, h9⟩ | h9)
    · obtain ⟨i, -, h2⟩ := hat k (q, ee) h9
      exact hBA q (hD.2 i (q, ee) h2)
    · exact hA q (Nat.le_trans hS.1 h9)
  have hDc : va_D (fun _ => True) wc := by
    have hlen : isC.length = wc.length := by simpa using congrArg List.length hC
    refine ⟨fun i j x z hi hj hxz => ?_, fun _ _ _ => trivial⟩
    obtain ⟨i1, h1, h2⟩ := hat i x hi
    obtain ⟨j1, h3, h4⟩ := hat j z hj
    have hij := hD.1 i1 j1 x z h2 h4 hxz
    subst hij
    exact va_nd_inj isC hnd i j i1 h1 h3
  obtain ⟨host, V1, V2, V3, V4, V5⟩ := V
  refine va_calli (va_runSN (As := As) (rest := rest) (host := host) ⟨K.1, K.2.1, K.2.2.1, K.2.2.2.1, K.2.2.2.2.1⟩ (hM H.size) ⟨va_cnB n K.2.2.2.2.1 (gw_goodc V1) rfl hR.1 hR.2.1 (K.2.2.2.2.2.2.2 _ V2) (K.2.2.2.2.1 _ V4) V5 hR.2.2, K.2.2.2.2.1 _ V3, trivial⟩ ⟨sk_P.blind, fun U hU hW => ⟨rfl, ⟨by rw [hU], by rw [hU]; exact hPc, va_K.moved hW.alike K.2.2.2.2.2.1, hDc, K.2.2.2.2.2.2.2.warm hW⟩, h⟩⟩ rfl hn hl.1 rfl (lv_room hw) (T.at ti hd) ⟨hcap.1, hcap.2⟩) hS (fun q _ h9 => hFc q h9) hFc (fun r u t H1 locs1 ht hvm hw1 hB hz1 hk1 hS1 => ?_)
  obtain ⟨hP1, hK1, hD1⟩ := hB
  rw [ht] at hP1
  obtain ⟨hP2, hD2⟩ := sk_join hP hD hC hmx (hadr u) hk1 hP1
  exact kk r u hw1 hA H1 locs1 ls hP2 hD2 hS1 hl
theorem R_callSN_i (K : sk_C p s m args meth c cc nL own D tys) (T : sk_T cc t) (ti : Nat) (isC : List Nat) {post : Int32 → Prop} (V : sk_SN own index y bytes maxL ret n) (hR : sk_R rm R maxL) (hM : ∀ sz : Nat, Met l y (Cond.code y bytes maxL ret :: GW) rm (va_Pc (As) (fun U => sk_P D tys wc sz U ∧ wpc)) (va_Qi (fun (r : Int32) (_ : Unit) => post r) (fun u t => sk_B D tys wc (fun _ => True) t) (fun q => sz ≤ q)) 0 0 (fun q => sz ≤ q)) (h : wpc) (hd : t[ti]? = some (pc, .invokestatic index, 3)) (hp : pc + 3 = pc') (hs : st = As.reverse ++ rest) (hn : As.length = n) (hC : isC.map (fun i => ws[i]?) = wc.map some) (hnd : va_nd isC = true) (hw : (rest.map fun v => v.category).sum ≤ 8) (hcap : cells ≤ R.cells ∧ slots ≤ R.slots) (kk : ∀ (r : Int32), post r → AW p l e R s m args below meth c D A B nL Q cells slots ws lv pc' (.int r :: rest)) : AW p l e R s m args below meth c D A B nL Q cells slots ws lv pc st := by
  subst hp; subst hs
  intro hA H locs ls hP hD hS hl
  have hat : ∀ (k : Nat) (q : Nat × va_E), wc[k]? = some q → ∃ i : Nat, isC[k]? = some i ∧ ws[i]? = some q := by
    intro k q hq
    have h3 : (isC.map (fun i => ws[i]?))[k]? = some (some q) := by rw [hC, List.getElem?_map, hq]; rfl
    rw [List.getElem?_map] at h3
    cases hi : isC[k]? with
    | none => rw [hi] at h3; cases h3
    | some i => rw [hi] at h3; exact ⟨i, rfl, Option.some.inj h3⟩
  have hPc : va_P D classes wc H := fun k q hq => by
    obtain ⟨i, -, h2⟩ := hat k q hq
    exact hP i q h2
  have hDc : va_D (fun _ => True) wc := by
    have hlen : isC.length = wc.length := by simpa using congrArg List.length hC
    refine ⟨fun i j x z hi hj hxz => ?_, fun _ _ _ => trivial⟩
    obtain ⟨i1, h1, h2⟩ := hat i x hi
    obtain ⟨j1, h3, h4⟩ := hat j z hj
    have hij := hD.1 i1 j1 x z h2 h4 hxz
    subst hij
    exact va_nd_inj isC hnd i j i1 h1 h3
  obtain ⟨host, V1, V2, V3, V4, V5⟩ := V
  refine va_calli (va_runSN (As := As) (rest := rest) (host := host) ⟨K.1, K.2.1, K.2.2.1, K.2.2.2.1, K.2.2.2.2.1⟩ (hM H.size) ⟨va_cnB n K.2.2.2.2.1 (gw_goodc V1) rfl hR.1 hR.2.1 (K.2.2.2.2.2.2.2 _ V2) (K.2.2.2.2.1 _ V4) V5 hR.2.2, K.2.2.2.2.1 _ V3, trivial⟩ ⟨sk_P.blind, fun U hU hW => ⟨rfl, ⟨by rw [hU], by rw [hU]; exact hPc, va_K.moved hW.alike K.2.2.2.2.2.1, hDc, K.2.2.2.2.2.2.2.warm hW⟩, h⟩⟩ rfl hn hl.1 rfl (lv_room hw) (T.at ti hd) ⟨hcap.1, hcap.2⟩) hS (fun q h8 h9 => absurd h8 (Nat.not_lt.mpr h9)) (fun q h9 => hA q (Nat.le_trans hS.1 h9)) (fun r u t H1 locs1 ht hvm hw1 hB hz1 hk1 hS1 => ?_)
  have hP2 : va_P D classes ws H1 := hP.kept (fun k q hq => hk1 q.1 (hP k q hq).lt (Nat.not_le.mpr (hP k q hq).lt))
  exact kk r hw1 hA H1 locs1 ls hP2 hD hS1 hl
theorem A_callSN_l (K : sk_C p s m args meth c cc nL own D tys) (hBA : ∀ q : Nat, B q → A q) (T : sk_T cc t) (ti : Nat) (isC : List Nat) (mx : List (Option Nat)) {post : Int64 → S → Prop} (V : sk_SN own index y bytes maxL ret n) (hR : sk_R rm R maxL) (hM : ∀ sz : Nat, Met l y (Cond.code y bytes maxL ret :: GW) rm (va_Pc (As) (fun U => sk_P D tys wc sz U ∧ wpc)) (va_Ql post (fun u t => sk_B D tys (wl u) (va_A wc sz) t) (va_A wc sz)) 0 0 (va_A wc sz)) (h : wpc) (hd : t[ti]? = some (pc, .invokestatic index, 3)) (hp : pc + 3 = pc') (hs : st = As.reverse ++ rest) (hn : As.length = n) (hC : isC.map (fun i => ws[i]?) = wc.map some) (hadr : ∀ u, (wl u).map (·.1) = wc.map (·.1)) (hnd : va_nd isC = true) (hmx : (List.range mx.length).map (fun k => sk_ix isC k 0) = mx) (hw : (rest.map fun v => v.category).sum ≤ 8) (hcap : cells ≤ R.cells ∧ slots ≤ R.slots) (kk : ∀ (r : Int64) (u : S), post r u → AW p l e R s m args below meth c D A B nL Q cells slots (sk_mix ws mx (wl u)) lv pc' (.long r :: rest)) : AW p l e R s m args below meth c D A B nL Q cells slots ws lv pc st := by
  subst hp; subst hs
  intro hA H locs ls hP hD hS hl
  have hat : ∀ (k : Nat) (q : Nat × va_E), wc[k]? = some q → ∃ i : Nat, isC[k]? = some i ∧ ws[i]? = some q := by
    intro k q hq
    have h3 : (isC.map (fun i => ws[i]?))[k]? = some (some q) := by rw [hC, List.getElem?_map, hq]; rfl
    rw [List.getElem?_map] at h3
    cases hi : isC[k]? with
    | none => rw [hi] at h3; cases h3
    | some i => rw [hi] at h3; exact ⟨i, rfl, Option.some.inj h3⟩
  have hPc : va_P D classes wc H := fun k q hq => by
    obtain ⟨i, -, h2⟩ := hat k q hq
    exact hP i q h2
  have hFc : ∀ q, va_A wc H.size q → A q := by
    rintro q (⟨k, ee, h9⟩ | h9)
    · obtain ⟨i, -, h2⟩ := hat k (q, ee) h9
      exact hBA q (hD.2 i (q, ee) h2)
    · exact hA q (Nat.le_trans hS.1 h9)
  have hDc : va_D (fun _ => True) wc := by
    have hlen : isC.length = wc.length := by simpa using congrArg List.length hC
    refine ⟨fun i j x z hi hj hxz => ?_, fun _ _ _ => trivial⟩
    obtain ⟨i1, h1, h2⟩ := hat i x hi
    obtain ⟨j1, h3, h4⟩ := hat j z hj
    have hij := hD.1 i1 j1 x z h2 h4 hxz
    subst hij
    exact va_nd_inj isC hnd i j i1 h1 h3
  obtain ⟨host, V1, V2, V3, V4, V5⟩ := V
  refine va_calll (va_runSN (As := As) (rest := rest) (host := host) ⟨K.1, K.2.1, K.2.2.1, K.2.2.2.1, K.2.2.2.2.1⟩ (hM H.size) ⟨va_cnB n K.2.2.2.2.1 (gw_goodc V1) rfl hR.1 hR.2.1 (K.2.2.2.2.2.2.2 _ V2) (K.2.2.2.2.1 _ V4) V5 hR.2.2, K.2.2.2.2.1 _ V3, trivial⟩ ⟨sk_P.blind, fun U hU hW => ⟨rfl, ⟨by rw [hU], by rw [hU]; exact hPc, va_K.moved hW.alike K.2.2.2.2.2.1, hDc, K.2.2.2.2.2.2.2.warm hW⟩, h⟩⟩ rfl hn hl.1 rfl (lv_room hw) (T.at ti hd) ⟨hcap.1, hcap.2⟩) hS (fun q _ h9 => hFc q h9) hFc (fun r u t H1 locs1 ht hvm hw1 hB hz1 hk1 hS1 => ?_)
  obtain ⟨hP1, hK1, hD1⟩ := hB
  rw [ht] at hP1
  obtain ⟨hP2, hD2⟩ := sk_join hP hD hC hmx (hadr u) hk1 hP1
  exact kk r u hw1 hA H1 locs1 ls hP2 hD2 hS1 hl
theorem R_callSN_l (K : sk_C p s m args meth c cc nL own D tys) (T : sk_T cc t) (ti : Nat) (isC : List Nat) {post : Int64 → Prop} (V : sk_SN own index y bytes maxL ret n) (hR : sk_R rm R maxL) (hM : ∀ sz : Nat, Met l y (Cond.code y bytes maxL ret :: GW) rm (va_Pc (As) (fun U => sk_P D tys wc sz U ∧ wpc)) (va_Ql (fun (r : Int64) (_ : Unit) => post r) (fun u t => sk_B D tys wc (fun _ => True) t) (fun q => sz ≤ q)) 0 0 (fun q => sz ≤ q)) (h : wpc) (hd : t[ti]? = some (pc, .invokestatic index, 3)) (hp : pc + 3 = pc') (hs : st = As.reverse ++ rest) (hn : As.length = n) (hC : isC.map (fun i => ws[i]?) = wc.map some) (hnd : va_nd isC = true) (hw : (rest.map fun v => v.category).sum ≤ 8) (hcap : cells ≤ R.cells ∧ slots ≤ R.slots) (kk : ∀ (r : Int64), post r → AW p l e R s m args below meth c D A B nL Q cells slots ws lv pc' (.long r :: rest)) : AW p l e R s m args below meth c D A B nL Q cells slots ws lv pc st := by
  subst hp; subst hs
  intro hA H locs ls hP hD hS hl
  have hat : ∀ (k : Nat) (q : Nat × va_E), wc[k]? = some q → ∃ i : Nat, isC[k]? = some i ∧ ws[i]? = some q := by
    intro k q hq
    have h3 : (isC.map (fun i => ws[i]?))[k]? = some (some q) := by rw [hC, List.getElem?_map, hq]; rfl
    rw [List.getElem?_map] at h3
    cases hi : isC[k]? with
    | none => rw [hi] at h3; cases h3
    | some i => rw [hi] at h3; exact ⟨i, rfl, Option.some.inj h3⟩
  have hPc : va_P D classes wc H := fun k q hq => by
    obtain ⟨i, -, h2⟩ := hat k q hq
    exact hP i q h2
  have hDc : va_D (fun _ => True) wc := by
    have hlen : isC.length = wc.length := by simpa using congrArg List.length hC
    refine ⟨fun i j x z hi hj hxz => ?_, fun _ _ _ => trivial⟩
    obtain ⟨i1, h1, h2⟩ := hat i x hi
    obtain ⟨j1, h3, h4⟩ := hat j z hj
    have hij := hD.1 i1 j1 x z h2 h4 hxz
    subst hij
    exact va_nd_inj isC hnd i j i1 h1 h3
  obtain ⟨host, V1, V2, V3, V4, V5⟩ := V
  refine va_calll (va_runSN (As := As) (rest := rest) (host := host) ⟨K.1, K.2.1, K.2.2.1, K.2.2.2.1, K.2.2.2.2.1⟩ (hM H.size) ⟨va_cnB n K.2.2.2.2.1 (gw_goodc V1) rfl hR.1 hR.2.1 (K.2.2.2.2.2.2.2 _ V2) (K.2.2.2.2.1 _ V4) V5 hR.2.2, K.2.2.2.2.1 _ V3, trivial⟩ ⟨sk_P.blind, fun U hU hW => ⟨rfl, ⟨by rw [hU], by rw [hU]; exact hPc, va_K.moved hW.alike K.2.2.2.2.2.1, hDc, K.2.2.2.2.2.2.2.warm hW⟩, h⟩⟩ rfl hn hl.1 rfl (lv_room hw) (T.at ti hd) ⟨hcap.1, hcap.2⟩) hS (fun q h8 h9 => absurd h8 (Nat.not_lt.mpr h9)) (fun q h9 => hA q (Nat.le_trans hS.1 h9)) (fun r u t H1 locs1 ht hvm hw1 hB hz1 hk1 hS1 => ?_)
  have hP2 : va_P D classes ws H1 := hP.kept (fun k q hq => hk1 q.1 (hP k q hq).lt (Nat.not_le.mpr (hP k q hq).lt))
  exact kk r hw1 hA H1 locs1 ls hP2 hD hS1 hl
theorem A_callSN_v (K : sk_C p s m args meth c cc nL own D tys) (hBA : ∀ q : Nat, B q → A q) (T : sk_T cc t) (ti : Nat) (isC : List Nat) (mx : List (Option Nat)) {post : S → Prop} (V : sk_SN own index y bytes maxL ret n) (hR : sk_R rm R maxL) (hM : ∀ sz : Nat, Met l y (Cond.code y bytes maxL ret :: GW) rm (va_Pc (As) (fun U => sk_P D tys wc sz U ∧ wpc)) (va_Qv post (fun u t => sk_B D tys (wl u) (va_A wc sz) t) (va_A wc sz)) 0 0 (va_A wc sz)) (h : wpc) (hd : t[ti]? = some (pc, .invokestatic index, 3)) (hp : pc + 3 = pc') (hs : st = As.reverse ++ rest) (hn : As.length = n) (hC : isC.map (fun i => ws[i]?) = wc.map some) (hadr : ∀ u, (wl u).map (·.1) = wc.map (·.1)) (hnd : va_nd isC = true) (hmx : (List.range mx.length).map (fun k => sk_ix isC k 0) = mx) (hw : (rest.map fun v => v.category).sum ≤ 8) (hcap : cells ≤ R.cells ∧ slots ≤ R.slots) (kk : ∀ (u : S), post u → AW p l e R s m args below meth c D A B nL Q cells slots (sk_mix ws mx (wl u)) lv pc' (rest)) : AW p l e R s m args below meth c D A B nL Q cells slots ws lv pc st := by
  subst hp; subst hs
  intro hA H locs ls hP hD hS hl
  have hat : ∀ (k : Nat) (q : Nat × va_E), wc[k]? = some q → ∃ i : Nat, isC[k]? = some i ∧ ws[i]? = some q := by
    intro k q hq
    have h3 : (isC.map (fun i => ws[i]?))[k]? = some (some q) := by rw [hC, List.getElem?_map, hq]; rfl
    rw [List.getElem?_map] at h3
    cases hi : isC[k]? with
    | none => rw [hi] at h3; cases h3
    | some i => rw [hi] at h3; exact ⟨i, rfl, Option.some.inj h3⟩
  have hPc : va_P D classes wc H := fun k q hq => by
    obtain ⟨i, -, h2⟩ := hat k q hq
    exact hP i q h2
  have hFc : ∀ q, va_A wc H.size q → A q := by
    rintro q (⟨k, ee, h9⟩ | h9)
    · obtain ⟨i, -, h2⟩ := hat k (q, ee) h9
      exact hBA q (hD.2 i (q, ee) h2)
    · exact hA q (Nat.le_trans hS.1 h9)
  have hDc : va_D (fun _ => True) wc := by
    have hlen : isC.length = wc.length := by simpa using congrArg List.length hC
    refine ⟨fun i j x z hi hj hxz => ?_, fun _ _ _ => trivial⟩
    obtain ⟨i1, h1, h2⟩ := hat i x hi
    obtain ⟨j1, h3, h4⟩ := hat j z hj
    have hij := hD.1 i1 j1 x z h2 h4 hxz
    subst hij
    exact va_nd_inj isC hnd i j i1 h1 h3
  obtain ⟨host, V1, V2, V3, V4, V5⟩ := V
  refine va_callv (va_runSN (As := As) (rest := rest) (host := host) ⟨K.1, K.2.1, K.2.2.1, K.2.2.2.1, K.2.2.2.2.1⟩ (hM H.size) ⟨va_cnB n K.2.2.2.2.1 (gw_goodc V1) rfl hR.1 hR.2.1 (K.2.2.2.2.2.2.2 _ V2) (K.2.2.2.2.1 _ V4) V5 hR.2.2, K.2.2.2.2.1 _ V3, trivial⟩ ⟨sk_P.blind, fun U hU hW => ⟨rfl, ⟨by rw [hU], by rw [hU]; exact hPc, va_K.moved hW.alike K.2.2.2.2.2.1, hDc, K.2.2.2.2.2.2.2.warm hW⟩, h⟩⟩ rfl hn hl.1 rfl (lv_room hw) (T.at ti hd) ⟨hcap.1, hcap.2⟩) hS (fun q _ h9 => hFc q h9) hFc (fun u t H1 locs1 ht hvm hw1 hB hz1 hk1 hS1 => ?_)
  obtain ⟨hP1, hK1, hD1⟩ := hB
  rw [ht] at hP1
  obtain ⟨hP2, hD2⟩ := sk_join hP hD hC hmx (hadr u) hk1 hP1
  exact kk u hw1 hA H1 locs1 ls hP2 hD2 hS1 hl
theorem R_callSN_v (K : sk_C p s m args meth c cc nL own D tys) (T : sk_T cc t) (ti : Nat) (isC : List Nat) {post : Prop} (V : sk_SN own index y bytes maxL ret n) (hR : sk_R rm R maxL) (hM : ∀ sz : Nat, Met l y (Cond.code y bytes maxL ret :: GW) rm (va_Pc (As) (fun U => sk_P D tys wc sz U ∧ wpc)) (va_Qv (fun (_ : Unit) => post) (fun u t => sk_B D tys wc (fun _ => True) t) (fun q => sz ≤ q)) 0 0 (fun q => sz ≤ q)) (h : wpc) (hd : t[ti]? = some (pc, .invokestatic index, 3)) (hp : pc + 3 = pc') (hs : st = As.reverse ++ rest) (hn : As.length = n) (hC : isC.map (fun i => ws[i]?) = wc.map some) (hnd : va_nd isC = true) (hw : (rest.map fun v => v.category).sum ≤ 8) (hcap : cells ≤ R.cells ∧ slots ≤ R.slots) (kk : post → AW p l e R s m args below meth c D A B nL Q cells slots ws lv pc' (rest)) : AW p l e R s m args below meth c D A B nL Q cells slots ws lv pc st := by
  subst hp; subst hs
  intro hA H locs ls hP hD hS hl
  have hat : ∀ (k : Nat) (q : Nat × va_E), wc[k]? = some q → ∃ i : Nat, isC[k]? = some i ∧ ws[i]? = some q := by
    intro k q hq
    have h3 : (isC.map (fun i => ws[i]?))[k]? = some (some q) := by rw [hC, List.getElem?_map, hq]; rfl
    rw [List.getElem?_map] at h3
    cases hi : isC[k]? with
    | none => rw [hi] at h3; cases h3
    | some i => rw [hi] at h3; exact ⟨i, rfl, Option.some.inj h3⟩
  have hPc : va_P D classes wc H := fun k q hq => by
    obtain ⟨i, -, h2⟩ := hat k q hq
    exact hP i q h2
  have hDc : va_D (fun _ => True) wc := by
    have hlen : isC.length = wc.length := by simpa using congrArg List.length hC
    refine ⟨fun i j x z hi hj hxz => ?_, fun _ _ _ => trivial⟩
    obtain ⟨i1, h1, h2⟩ := hat i x hi
    obtain ⟨j1, h3, h4⟩ := hat j z hj
    have hij := hD.1 i1 j1 x z h2 h4 hxz
    subst hij
    exact va_nd_inj isC hnd i j i1 h1 h3
  obtain ⟨host, V1, V2, V3, V4, V5⟩ := V
  refine va_callv (va_runSN (As := As) (rest := rest) (host := host) ⟨K.1, K.2.1, K.2.2.1, K.2.2.2.1, K.2.2.2.2.1⟩ (hM H.size) ⟨va_cnB n K.2.2.2.2.1 (gw_goodc V1) rfl hR.1 hR.2.1 (K.2.2.2.2.2.2.2 _ V2) (K.2.2.2.2.1 _ V4) V5 hR.2.2, K.2.2.2.2.1 _ V3, trivial⟩ ⟨sk_P.blind, fun U hU hW => ⟨rfl, ⟨by rw [hU], by rw [hU]; exact hPc, va_K.moved hW.alike K.2.2.2.2.2.1, hDc, K.2.2.2.2.2.2.2.warm hW⟩, h⟩⟩ rfl hn hl.1 rfl (lv_room hw) (T.at ti hd) ⟨hcap.1, hcap.2⟩) hS (fun q h8 h9 => absurd h8 (Nat.not_lt.mpr h9)) (fun q h9 => hA q (Nat.le_trans hS.1 h9)) (fun u t H1 locs1 ht hvm hw1 hB hz1 hk1 hS1 => ?_)
  have hP2 : va_P D classes ws H1 := hP.kept (fun k q hq => hk1 q.1 (hP k q hq).lt (Nat.not_le.mpr (hP k q hq).lt))
  exact kk hw1 hA H1 locs1 ls hP2 hD hS1 hl
end SKC
/-! LOOPS AND JOINS in predicates -/
def sL1 {B1 : Type} (F : (B1 → Prop) → B1 → Prop) : Nat → B1 → Prop
  | 0 => fun _ => False
  | n + 1 => F (sL1 F n)
theorem sL1_ind {B1 : Type} {F : (B1 → Prop) → B1 → Prop} (P : B1 → Prop) (step : ∀ k : B1 → Prop, (∀ (x1 : B1), k x1 → P x1) → ∀ (x1 : B1), F k x1 → P x1) : ∀ (n : Nat) (x1 : B1), sL1 F n x1 → P x1
  | 0, _ => fun h => h.elim
  | n + 1, x1 => fun h => step (sL1 F n) (sL1_ind P step n) x1 h
theorem sL1_of {B1 : Type} {F : (B1 → Prop) → B1 → Prop} (I : B1 → Prop) (μ : B1 → Nat) (step : ∀ (k : B1 → Prop) (x1 : B1), I x1 → (∀ (z1 : B1), I z1 → μ z1 < μ x1 → k z1) → F k x1) (x1 : B1) (h : I x1) : ∃ n, sL1 F n x1 := by
  have key : ∀ (n : Nat) (x1 : B1), I x1 → μ x1 < n → sL1 F n x1 := by
    intro n
    induction n with
    | zero => intro x1 _ h; exact absurd h (Nat.not_lt_zero _)
    | succ n ih => intro x1 hI hn; exact step (sL1 F n) x1 hI (fun z1 hI2 h2 => ih z1 hI2 (by omega))
  exact ⟨_, key _ x1 h (Nat.lt_succ_self _)⟩
def sL2 {B1 B2 : Type} (F : (B1 → B2 → Prop) → B1 → B2 → Prop) : Nat → B1 → B2 → Prop
  | 0 => fun _ _ => False
  | n + 1 => F (sL2 F n)
theorem sL2_ind {B1 B2 : Type} {F : (B1 → B2 → Prop) → B1 → B2 → Prop} (P : B1 → B2 → Prop) (step : ∀ k : B1 → B2 → Prop, (∀ (x1 : B1) (x2 : B2), k x1 x2 → P x1 x2) → ∀ (x1 : B1) (x2 : B2), F k x1 x2 → P x1 x2) : ∀ (n : Nat) (x1 : B1) (x2 : B2), sL2 F n x1 x2 → P x1 x2
  | 0, _, _ => fun h => h.elim
  | n + 1, x1, x2 => fun h => step (sL2 F n) (sL2_ind P step n) x1 x2 h
theorem sL2_of {B1 B2 : Type} {F : (B1 → B2 → Prop) → B1 → B2 → Prop} (I : B1 → B2 → Prop) (μ : B1 → B2 → Nat) (step : ∀ (k : B1 → B2 → Prop) (x1 : B1) (x2 : B2), I x1 x2 → (∀ (z1 : B1) (z2 : B2), I z1 z2 → μ z1 z2 < μ x1 x2 → k z1 z2) → F k x1 x2) (x1 : B1) (x2 : B2) (h : I x1 x2) : ∃ n, sL2 F n x1 x2 := by
  have key : ∀ (n : Nat) (x1 : B1) (x2 : B2), I x1 x2 → μ x1 x2 < n → sL2 F n x1 x2 := by
    intro n
    induction n with
    | zero => intro x1 x2 _ h; exact absurd h (Nat.not_lt_zero _)
    | succ n ih => intro x1 x2 hI hn; exact step (sL2 F n) x1 x2 hI (fun z1 z2 hI2 h2 => ih z1 z2 hI2 (by omega))
  exact ⟨_, key _ x1 x2 h (Nat.lt_succ_self _)⟩
def sL3 {B1 B2 B3 : Type} (F : (B1 → B2 → B3 → Prop) → B1 → B2 → B3 → Prop) : Nat → B1 → B2 → B3 → Prop
  | 0 => fun _ _ _ => False
  | n + 1 => F (sL3 F n)
theorem sL3_ind {B1 B2 B3 : Type} {F : (B1 → B2 → B3 → Prop) → B1 → B2 → B3 → Prop} (P : B1 → B2 → B3 → Prop) (step : ∀ k : B1 → B2 → B3 → Prop, (∀ (x1 : B1) (x2 : B2) (x3 : B3), k x1 x2 x3 → P x1 x2 x3) → ∀ (x1 : B1) (x2 : B2) (x3 : B3), F k x1 x2 x3 → P x1 x2 x3) : ∀ (n : Nat) (x1 : B1) (x2 : B2) (x3 : B3), sL3 F n x1 x2 x3 → P x1 x2 x3
  | 0, _, _, _ => fun h => h.elim
  | n + 1, x1, x2, x3 => fun h => step (sL3 F n) (sL3_ind P step n) x1 x2 x3 h
theorem sL3_of {B1 B2 B3 : Type} {F : (B1 → B2 → B3 → Prop) → B1 → B2 → B3 → Prop} (I : B1 → B2 → B3 → Prop) (μ : B1 → B2 → B3 → Nat) (step : ∀ (k : B1 → B2 → B3 → Prop) (x1 : B1) (x2 : B2) (x3 : B3), I x1 x2 x3 → (∀ (z1 : B1) (z2 : B2) (z3 : B3), I z1 z2 z3 → μ z1 z2 z3 < μ x1 x2 x3 → k z1 z2 z3) → F k x1 x2 x3) (x1 : B1) (x2 : B2) (x3 : B3) (h : I x1 x2 x3) : ∃ n, sL3 F n x1 x2 x3 := by
  have key : ∀ (n : Nat) (x1 : B1) (x2 : B2) (x3 : B3), I x1 x2 x3 → μ x1 x2 x3 < n → sL3 F n x1 x2 x3 := by
    intro n
    induction n with
    | zero => intro x1 x2 x3 _ h; exact absurd h (Nat.not_lt_zero _)
    | succ n ih => intro x1 x2 x3 hI hn; exact step (sL3 F n) x1 x2 x3 hI (fun z1 z2 z3 hI2 h2 => ih z1 z2 z3 hI2 (by omega))
  exact ⟨_, key _ x1 x2 x3 h (Nat.lt_succ_self _)⟩
def sL4 {B1 B2 B3 B4 : Type} (F : (B1 → B2 → B3 → B4 → Prop) → B1 → B2 → B3 → B4 → Prop) : Nat → B1 → B2 → B3 → B4 → Prop
  | 0 => fun _ _ _ _ => False
  | n + 1 => F (sL4 F n)
theorem sL4_ind {B1 B2 B3 B4 : Type} {F : (B1 → B2 → B3 → B4 → Prop) → B1 → B2 → B3 → B4 → Prop} (P : B1 → B2 → B3 → B4 → Prop) (step : ∀ k : B1 → B2 → B3 → B4 → Prop, (∀ (x1 : B1) (x2 : B2) (x3 : B3) (x4 : B4), k x1 x2 x3 x4 → P x1 x2 x3 x4) → ∀ (x1 : B1) (x2 : B2) (x3 : B3) (x4 : B4), F k x1 x2 x3 x4 → P x1 x2 x3 x4) : ∀ (n : Nat) (x1 : B1) (x2 : B2) (x3 : B3) (x4 : B4), sL4 F n x1 x2 x3 x4 → P x1 x2 x3 x4
  | 0, _, _, _, _ => fun h => h.elim
  | n + 1, x1, x2, x3, x4 => fun h => step (sL4 F n) (sL4_ind P step n) x1 x2 x3 x4 h
theorem sL4_of {B1 B2 B3 B4 : Type} {F : (B1 → B2 → B3 → B4 → Prop) → B1 → B2 → B3 → B4 → Prop} (I : B1 → B2 → B3 → B4 → Prop) (μ : B1 → B2 → B3 → B4 → Nat) (step : ∀ (k : B1 → B2 → B3 → B4 → Prop) (x1 : B1) (x2 : B2) (x3 : B3) (x4 : B4), I x1 x2 x3 x4 → (∀ (z1 : B1) (z2 : B2) (z3 : B3) (z4 : B4), I z1 z2 z3 z4 → μ z1 z2 z3 z4 < μ x1 x2 x3 x4 → k z1 z2 z3 z4) → F k x1 x2 x3 x4) (x1 : B1) (x2 : B2) (x3 : B3) (x4 : B4) (h : I x1 x2 x3 x4) : ∃ n, sL4 F n x1 x2 x3 x4 := by
  have key : ∀ (n : Nat) (x1 : B1) (x2 : B2) (x3 : B3) (x4 : B4), I x1 x2 x3 x4 → μ x1 x2 x3 x4 < n → sL4 F n x1 x2 x3 x4 := by
    intro n
    induction n with
    | zero => intro x1 x2 x3 x4 _ h; exact absurd h (Nat.not_lt_zero _)
    | succ n ih => intro x1 x2 x3 x4 hI hn; exact step (sL4 F n) x1 x2 x3 x4 hI (fun z1 z2 z3 z4 hI2 h2 => ih z1 z2 z3 z4 hI2 (by omega))
  exact ⟨_, key _ x1 x2 x3 x4 h (Nat.lt_succ_self _)⟩
def sL5 {B1 B2 B3 B4 B5 : Type} (F : (B1 → B2 → B3 → B4 → B5 → Prop) → B1 → B2 → B3 → B4 → B5 → Prop) : Nat → B1 → B2 → B3 → B4 → B5 → Prop
  | 0 => fun _ _ _ _ _ => False
  | n + 1 => F (sL5 F n)
theorem sL5_ind {B1 B2 B3 B4 B5 : Type} {F : (B1 → B2 → B3 → B4 → B5 → Prop) → B1 → B2 → B3 → B4 → B5 → Prop} (P : B1 → B2 → B3 → B4 → B5 → Prop) (step : ∀ k : B1 → B2 → B3 → B4 → B5 → Prop, (∀ (x1 : B1) (x2 : B2) (x3 : B3) (x4 : B4) (x5 : B5), k x1 x2 x3 x4 x5 → P x1 x2 x3 x4 x5) → ∀ (x1 : B1) (x2 : B2) (x3 : B3) (x4 : B4) (x5 : B5), F k x1 x2 x3 x4 x5 → P x1 x2 x3 x4 x5) : ∀ (n : Nat) (x1 : B1) (x2 : B2) (x3 : B3) (x4 : B4) (x5 : B5), sL5 F n x1 x2 x3 x4 x5 → P x1 x2 x3 x4 x5
  | 0, _, _, _, _, _ => fun h => h.elim
  | n + 1, x1, x2, x3, x4, x5 => fun h => step (sL5 F n) (sL5_ind P step n) x1 x2 x3 x4 x5 h
theorem sL5_of {B1 B2 B3 B4 B5 : Type} {F : (B1 → B2 → B3 → B4 → B5 → Prop) → B1 → B2 → B3 → B4 → B5 → Prop} (I : B1 → B2 → B3 → B4 → B5 → Prop) (μ : B1 → B2 → B3 → B4 → B5 → Nat) (step : ∀ (k : B1 → B2 → B3 → B4 → B5 → Prop) (x1 : B1) (x2 : B2) (x3 : B3) (x4 : B4) (x5 : B5), I x1 x2 x3 x4 x5 → (∀ (z1 : B1) (z2 : B2) (z3 : B3) (z4 : B4) (z5 : B5), I z1 z2 z3 z4 z5 → μ z1 z2 z3 z4 z5 < μ x1 x2 x3 x4 x5 → k z1 z2 z3 z4 z5) → F k x1 x2 x3 x4 x5) (x1 : B1) (x2 : B2) (x3 : B3) (x4 : B4) (x5 : B5) (h : I x1 x2 x3 x4 x5) : ∃ n, sL5 F n x1 x2 x3 x4 x5 := by
  have key : ∀ (n : Nat) (x1 : B1) (x2 : B2) (x3 : B3) (x4 : B4) (x5 : B5), I x1 x2 x3 x4 x5 → μ x1 x2 x3 x4 x5 < n → sL5 F n x1 x2 x3 x4 x5 := by
    intro n
    induction n with
    | zero => intro x1 x2 x3 x4 x5 _ h; exact absurd h (Nat.not_lt_zero _)
    | succ n ih => intro x1 x2 x3 x4 x5 hI hn; exact step (sL5 F n) x1 x2 x3 x4 x5 hI (fun z1 z2 z3 z4 z5 hI2 h2 => ih z1 z2 z3 z4 z5 hI2 (by omega))
  exact ⟨_, key _ x1 x2 x3 x4 x5 h (Nat.lt_succ_self _)⟩
def sL6 {B1 B2 B3 B4 B5 B6 : Type} (F : (B1 → B2 → B3 → B4 → B5 → B6 → Prop) → B1 → B2 → B3 → B4 → B5 → B6 → Prop) : Nat → B1 → B2 → B3 → B4 → B5 → B6 → Prop
  | 0 => fun _ _ _ _ _ _ => False
  | n + 1 => F (sL6 F n)
theorem sL6_ind {B1 B2 B3 B4 B5 B6 : Type} {F : (B1 → B2 → B3 → B4 → B5 → B6 → Prop) → B1 → B2 → B3 → B4 → B5 → B6 → Prop} (P : B1 → B2 → B3 → B4 → B5 → B6 → Prop) (step : ∀ k : B1 → B2 → B3 → B4 → B5 → B6 → Prop, (∀ (x1 : B1) (x2 : B2) (x3 : B3) (x4 : B4) (x5 : B5) (x6 : B6), k x1 x2 x3 x4 x5 x6 → P x1 x2 x3 x4 x5 x6) → ∀ (x1 : B1) (x2 : B2) (x3 : B3) (x4 : B4) (x5 : B5) (x6 : B6), F k x1 x2 x3 x4 x5 x6 → P x1 x2 x3 x4 x5 x6) : ∀ (n : Nat) (x1 : B1) (x2 : B2) (x3 : B3) (x4 : B4) (x5 : B5) (x6 : B6), sL6 F n x1 x2 x3 x4 x5 x6 → P x1 x2 x3 x4 x5 x6
  | 0, _, _, _, _, _, _ => fun h => h.elim
  | n + 1, x1, x2, x3, x4, x5, x6 => fun h => step (sL6 F n) (sL6_ind P step n) x1 x2 x3 x4 x5 x6 h
theorem sL6_of {B1 B2 B3 B4 B5 B6 : Type} {F : (B1 → B2 → B3 → B4 → B5 → B6 → Prop) → B1 → B2 → B3 → B4 → B5 → B6 → Prop} (I : B1 → B2 → B3 → B4 → B5 → B6 → Prop) (μ : B1 → B2 → B3 → B4 → B5 → B6 → Nat) (step : ∀ (k : B1 → B2 → B3 → B4 → B5 → B6 → Prop) (x1 : B1) (x2 : B2) (x3 : B3) (x4 : B4) (x5 : B5) (x6 : B6), I x1 x2 x3 x4 x5 x6 → (∀ (z1 : B1) (z2 : B2) (z3 : B3) (z4 : B4) (z5 : B5) (z6 : B6), I z1 z2 z3 z4 z5 z6 → μ z1 z2 z3 z4 z5 z6 < μ x1 x2 x3 x4 x5 x6 → k z1 z2 z3 z4 z5 z6) → F k x1 x2 x3 x4 x5 x6) (x1 : B1) (x2 : B2) (x3 : B3) (x4 : B4) (x5 : B5) (x6 : B6) (h : I x1 x2 x3 x4 x5 x6) : ∃ n, sL6 F n x1 x2 x3 x4 x5 x6 := by
  have key : ∀ (n : Nat) (x1 : B1) (x2 : B2) (x3 : B3) (x4 : B4) (x5 : B5) (x6 : B6), I x1 x2 x3 x4 x5 x6 → μ x1 x2 x3 x4 x5 x6 < n → sL6 F n x1 x2 x3 x4 x5 x6 := by
    intro n
    induction n with
    | zero => intro x1 x2 x3 x4 x5 x6 _ h; exact absurd h (Nat.not_lt_zero _)
    | succ n ih => intro x1 x2 x3 x4 x5 x6 hI hn; exact step (sL6 F n) x1 x2 x3 x4 x5 x6 hI (fun z1 z2 z3 z4 z5 z6 hI2 h2 => ih z1 z2 z3 z4 z5 z6 hI2 (by omega))
  exact ⟨_, key _ x1 x2 x3 x4 x5 x6 h (Nat.lt_succ_self _)⟩
def sL7 {B1 B2 B3 B4 B5 B6 B7 : Type} (F : (B1 → B2 → B3 → B4 → B5 → B6 → B7 → Prop) → B1 → B2 → B3 → B4 → B5 → B6 → B7 → Prop) : Nat → B1 → B2 → B3 → B4 → B5 → B6 → B7 → Prop
  | 0 => fun _ _ _ _ _ _ _ => False
  | n + 1 => F (sL7 F n)
theorem sL7_ind {B1 B2 B3 B4 B5 B6 B7 : Type} {F : (B1 → B2 → B3 → B4 → B5 → B6 → B7 → Prop) → B1 → B2 → B3 → B4 → B5 → B6 → B7 → Prop} (P : B1 → B2 → B3 → B4 → B5 → B6 → B7 → Prop) (step : ∀ k : B1 → B2 → B3 → B4 → B5 → B6 → B7 → Prop, (∀ (x1 : B1) (x2 : B2) (x3 : B3) (x4 : B4) (x5 : B5) (x6 : B6) (x7 : B7), k x1 x2 x3 x4 x5 x6 x7 → P x1 x2 x3 x4 x5 x6 x7) → ∀ (x1 : B1) (x2 : B2) (x3 : B3) (x4 : B4) (x5 : B5) (x6 : B6) (x7 : B7), F k x1 x2 x3 x4 x5 x6 x7 → P x1 x2 x3 x4 x5 x6 x7) : ∀ (n : Nat) (x1 : B1) (x2 : B2) (x3 : B3) (x4 : B4) (x5 : B5) (x6 : B6) (x7 : B7), sL7 F n x1 x2 x3 x4 x5 x6 x7 → P x1 x2 x3 x4 x5 x6 x7
  | 0, _, _, _, _, _, _, _ => fun h => h.elim
  | n + 1, x1, x2, x3, x4, x5, x6, x7 => fun h => step (sL7 F n) (sL7_ind P step n) x1 x2 x3 x4 x5 x6 x7 h
theorem sL7_of {B1 B2 B3 B4 B5 B6 B7 : Type} {F : (B1 → B2 → B3 → B4 → B5 → B6 → B7 → Prop) → B1 → B2 → B3 → B4 → B5 → B6 → B7 → Prop} (I : B1 → B2 → B3 → B4 → B5 → B6 → B7 → Prop) (μ : B1 → B2 → B3 → B4 → B5 → B6 → B7 → Nat) (step : ∀ (k : B1 → B2 → B3 → B4 → B5 → B6 → B7 → Prop) (x1 : B1) (x2 : B2) (x3 : B3) (x4 : B4) (x5 : B5) (x6 : B6) (x7 : B7), I x1 x2 x3 x4 x5 x6 x7 → (∀ (z1 : B1) (z2 : B2) (z3 : B3) (z4 : B4) (z5 : B5) (z6 : B6) (z7 : B7), I z1 z2 z3 z4 z5 z6 z7 → μ z1 z2 z3 z4 z5 z6 z7 < μ x1 x2 x3 x4 x5 x6 x7 → k z1 z2 z3 z4 z5 z6 z7) → F k x1 x2 x3 x4 x5 x6 x7) (x1 : B1) (x2 : B2) (x3 : B3) (x4 : B4) (x5 : B5) (x6 : B6) (x7 : B7) (h : I x1 x2 x3 x4 x5 x6 x7) : ∃ n, sL7 F n x1 x2 x3 x4 x5 x6 x7 := by
  have key : ∀ (n : Nat) (x1 : B1) (x2 : B2) (x3 : B3) (x4 : B4) (x5 : B5) (x6 : B6) (x7 : B7), I x1 x2 x3 x4 x5 x6 x7 → μ x1 x2 x3 x4 x5 x6 x7 < n → sL7 F n x1 x2 x3 x4 x5 x6 x7 := by
    intro n
    induction n with
    | zero => intro x1 x2 x3 x4 x5 x6 x7 _ h; exact absurd h (Nat.not_lt_zero _)
    | succ n ih => intro x1 x2 x3 x4 x5 x6 x7 hI hn; exact step (sL7 F n) x1 x2 x3 x4 x5 x6 x7 hI (fun z1 z2 z3 z4 z5 z6 z7 hI2 h2 => ih z1 z2 z3 z4 z5 z6 z7 hI2 (by omega))
  exact ⟨_, key _ x1 x2 x3 x4 x5 x6 x7 h (Nat.lt_succ_self _)⟩
def sL8 {B1 B2 B3 B4 B5 B6 B7 B8 : Type} (F : (B1 → B2 → B3 → B4 → B5 → B6 → B7 → B8 → Prop) → B1 → B2 → B3 → B4 → B5 → B6 → B7 → B8 → Prop) : Nat → B1 → B2 → B3 → B4 → B5 → B6 → B7 → B8 → Prop
  | 0 => fun _ _ _ _ _ _ _ _ => False
  | n + 1 => F (sL8 F n)
theorem sL8_ind {B1 B2 B3 B4 B5 B6 B7 B8 : Type} {F : (B1 → B2 → B3 → B4 → B5 → B6 → B7 → B8 → Prop) → B1 → B2 → B3 → B4 → B5 → B6 → B7 → B8 → Prop} (P : B1 → B2 → B3 → B4 → B5 → B6 → B7 → B8 → Prop) (step : ∀ k : B1 → B2 → B3 → B4 → B5 → B6 → B7 → B8 → Prop, (∀ (x1 : B1) (x2 : B2) (x3 : B3) (x4 : B4) (x5 : B5) (x6 : B6) (x7 : B7) (x8 : B8), k x1 x2 x3 x4 x5 x6 x7 x8 → P x1 x2 x3 x4 x5 x6 x7 x8) → ∀ (x1 : B1) (x2 : B2) (x3 : B3) (x4 : B4) (x5 : B5) (x6 : B6) (x7 : B7) (x8 : B8), F k x1 x2 x3 x4 x5 x6 x7 x8 → P x1 x2 x3 x4 x5 x6 x7 x8) : ∀ (n : Nat) (x1 : B1) (x2 : B2) (x3 : B3) (x4 : B4) (x5 : B5) (x6 : B6) (x7 : B7) (x8 : B8), sL8 F n x1 x2 x3 x4 x5 x6 x7 x8 → P x1 x2 x3 x4 x5 x6 x7 x8
  | 0, _, _, _, _, _, _, _, _ => fun h => h.elim
  | n + 1, x1, x2, x3, x4, x5, x6, x7, x8 => fun h => step (sL8 F n) (sL8_ind P step n) x1 x2 x3 x4 x5 x6 x7 x8 h
theorem sL8_of {B1 B2 B3 B4 B5 B6 B7 B8 : Type} {F : (B1 → B2 → B3 → B4 → B5 → B6 → B7 → B8 → Prop) → B1 → B2 → B3 → B4 → B5 → B6 → B7 → B8 → Prop} (I : B1 → B2 → B3 → B4 → B5 → B6 → B7 → B8 → Prop) (μ : B1 → B2 → B3 → B4 → B5 → B6 → B7 → B8 → Nat) (step : ∀ (k : B1 → B2 → B3 → B4 → B5 → B6 → B7 → B8 → Prop) (x1 : B1) (x2 : B2) (x3 : B3) (x4 : B4) (x5 : B5) (x6 : B6) (x7 : B7) (x8 : B8), I x1 x2 x3 x4 x5 x6 x7 x8 → (∀ (z1 : B1) (z2 : B2) (z3 : B3) (z4 : B4) (z5 : B5) (z6 : B6) (z7 : B7) (z8 : B8), I z1 z2 z3 z4 z5 z6 z7 z8 → μ z1 z2 z3 z4 z5 z6 z7 z8 < μ x1 x2 x3 x4 x5 x6 x7 x8 → k z1 z2 z3 z4 z5 z6 z7 z8) → F k x1 x2 x3 x4 x5 x6 x7 x8) (x1 : B1) (x2 : B2) (x3 : B3) (x4 : B4) (x5 : B5) (x6 : B6) (x7 : B7) (x8 : B8) (h : I x1 x2 x3 x4 x5 x6 x7 x8) : ∃ n, sL8 F n x1 x2 x3 x4 x5 x6 x7 x8 := by
  have key : ∀ (n : Nat) (x1 : B1) (x2 : B2) (x3 : B3) (x4 : B4) (x5 : B5) (x6 : B6) (x7 : B7) (x8 : B8), I x1 x2 x3 x4 x5 x6 x7 x8 → μ x1 x2 x3 x4 x5 x6 x7 x8 < n → sL8 F n x1 x2 x3 x4 x5 x6 x7 x8 := by
    intro n
    induction n with
    | zero => intro x1 x2 x3 x4 x5 x6 x7 x8 _ h; exact absurd h (Nat.not_lt_zero _)
    | succ n ih => intro x1 x2 x3 x4 x5 x6 x7 x8 hI hn; exact step (sL8 F n) x1 x2 x3 x4 x5 x6 x7 x8 hI (fun z1 z2 z3 z4 z5 z6 z7 z8 hI2 h2 => ih z1 z2 z3 z4 z5 z6 z7 z8 hI2 (by omega))
  exact ⟨_, key _ x1 x2 x3 x4 x5 x6 x7 x8 h (Nat.lt_succ_self _)⟩
def sL9 {B1 B2 B3 B4 B5 B6 B7 B8 B9 : Type} (F : (B1 → B2 → B3 → B4 → B5 → B6 → B7 → B8 → B9 → Prop) → B1 → B2 → B3 → B4 → B5 → B6 → B7 → B8 → B9 → Prop) : Nat → B1 → B2 → B3 → B4 → B5 → B6 → B7 → B8 → B9 → Prop
  | 0 => fun _ _ _ _ _ _ _ _ _ => False
  | n + 1 => F (sL9 F n)
theorem sL9_ind {B1 B2 B3 B4 B5 B6 B7 B8 B9 : Type} {F : (B1 → B2 → B3 → B4 → B5 → B6 → B7 → B8 → B9 → Prop) → B1 → B2 → B3 → B4 → B5 → B6 → B7 → B8 → B9 → Prop} (P : B1 → B2 → B3 → B4 → B5 → B6 → B7 → B8 → B9 → Prop) (step : ∀ k : B1 → B2 → B3 → B4 → B5 → B6 → B7 → B8 → B9 → Prop, (∀ (x1 : B1) (x2 : B2) (x3 : B3) (x4 : B4) (x5 : B5) (x6 : B6) (x7 : B7) (x8 : B8) (x9 : B9), k x1 x2 x3 x4 x5 x6 x7 x8 x9 → P x1 x2 x3 x4 x5 x6 x7 x8 x9) → ∀ (x1 : B1) (x2 : B2) (x3 : B3) (x4 : B4) (x5 : B5) (x6 : B6) (x7 : B7) (x8 : B8) (x9 : B9), F k x1 x2 x3 x4 x5 x6 x7 x8 x9 → P x1 x2 x3 x4 x5 x6 x7 x8 x9) : ∀ (n : Nat) (x1 : B1) (x2 : B2) (x3 : B3) (x4 : B4) (x5 : B5) (x6 : B6) (x7 : B7) (x8 : B8) (x9 : B9), sL9 F n x1 x2 x3 x4 x5 x6 x7 x8 x9 → P x1 x2 x3 x4 x5 x6 x7 x8 x9
  | 0, _, _, _, _, _, _, _, _, _ => fun h => h.elim
  | n + 1, x1, x2, x3, x4, x5, x6, x7, x8, x9 => fun h => step (sL9 F n) (sL9_ind P step n) x1 x2 x3 x4 x5 x6 x7 x8 x9 h
theorem sL9_of {B1 B2 B3 B4 B5 B6 B7 B8 B9 : Type} {F : (B1 → B2 → B3 → B4 → B5 → B6 → B7 → B8 → B9 → Prop) → B1 → B2 → B3 → B4 → B5 → B6 → B7 → B8 → B9 → Prop} (I : B1 → B2 → B3 → B4 → B5 → B6 → B7 → B8 → B9 → Prop) (μ : B1 → B2 → B3 → B4 → B5 → B6 → B7 → B8 → B9 → Nat) (step : ∀ (k : B1 → B2 → B3 → B4 → B5 → B6 → B7 → B8 → B9 → Prop) (x1 : B1) (x2 : B2) (x3 : B3) (x4 : B4) (x5 : B5) (x6 : B6) (x7 : B7) (x8 : B8) (x9 : B9), I x1 x2 x3 x4 x5 x6 x7 x8 x9 → (∀ (z1 : B1) (z2 : B2) (z3 : B3) (z4 : B4) (z5 : B5) (z6 : B6) (z7 : B7) (z8 : B8) (z9 : B9), I z1 z2 z3 z4 z5 z6 z7 z8 z9 → μ z1 z2 z3 z4 z5 z6 z7 z8 z9 < μ x1 x2 x3 x4 x5 x6 x7 x8 x9 → k z1 z2 z3 z4 z5 z6 z7 z8 z9) → F k x1 x2 x3 x4 x5 x6 x7 x8 x9) (x1 : B1) (x2 : B2) (x3 : B3) (x4 : B4) (x5 : B5) (x6 : B6) (x7 : B7) (x8 : B8) (x9 : B9) (h : I x1 x2 x3 x4 x5 x6 x7 x8 x9) : ∃ n, sL9 F n x1 x2 x3 x4 x5 x6 x7 x8 x9 := by
  have key : ∀ (n : Nat) (x1 : B1) (x2 : B2) (x3 : B3) (x4 : B4) (x5 : B5) (x6 : B6) (x7 : B7) (x8 : B8) (x9 : B9), I x1 x2 x3 x4 x5 x6 x7 x8 x9 → μ x1 x2 x3 x4 x5 x6 x7 x8 x9 < n → sL9 F n x1 x2 x3 x4 x5 x6 x7 x8 x9 := by
    intro n
    induction n with
    | zero => intro x1 x2 x3 x4 x5 x6 x7 x8 x9 _ h; exact absurd h (Nat.not_lt_zero _)
    | succ n ih => intro x1 x2 x3 x4 x5 x6 x7 x8 x9 hI hn; exact step (sL9 F n) x1 x2 x3 x4 x5 x6 x7 x8 x9 hI (fun z1 z2 z3 z4 z5 z6 z7 z8 z9 hI2 h2 => ih z1 z2 z3 z4 z5 z6 z7 z8 z9 hI2 (by omega))
  exact ⟨_, key _ x1 x2 x3 x4 x5 x6 x7 x8 x9 h (Nat.lt_succ_self _)⟩
def sL10 {B1 B2 B3 B4 B5 B6 B7 B8 B9 B10 : Type} (F : (B1 → B2 → B3 → B4 → B5 → B6 → B7 → B8 → B9 → B10 → Prop) → B1 → B2 → B3 → B4 → B5 → B6 → B7 → B8 → B9 → B10 → Prop) : Nat → B1 → B2 → B3 → B4 → B5 → B6 → B7 → B8 → B9 → B10 → Prop
  | 0 => fun _ _ _ _ _ _ _ _ _ _ => False
  | n + 1 => F (sL10 F n)
theorem sL10_ind {B1 B2 B3 B4 B5 B6 B7 B8 B9 B10 : Type} {F : (B1 → B2 → B3 → B4 → B5 → B6 → B7 → B8 → B9 → B10 → Prop) → B1 → B2 → B3 → B4 → B5 → B6 → B7 → B8 → B9 → B10 → Prop} (P : B1 → B2 → B3 → B4 → B5 → B6 → B7 → B8 → B9 → B10 → Prop) (step : ∀ k : B1 → B2 → B3 → B4 → B5 → B6 → B7 → B8 → B9 → B10 → Prop, (∀ (x1 : B1) (x2 : B2) (x3 : B3) (x4 : B4) (x5 : B5) (x6 : B6) (x7 : B7) (x8 : B8) (x9 : B9) (x10 : B10), k x1 x2 x3 x4 x5 x6 x7 x8 x9 x10 → P x1 x2 x3 x4 x5 x6 x7 x8 x9 x10) → ∀ (x1 : B1) (x2 : B2) (x3 : B3) (x4 : B4) (x5 : B5) (x6 : B6) (x7 : B7) (x8 : B8) (x9 : B9) (x10 : B10), F k x1 x2 x3 x4 x5 x6 x7 x8 x9 x10 → P x1 x2 x3 x4 x5 x6 x7 x8 x9 x10) : ∀ (n : Nat) (x1 : B1) (x2 : B2) (x3 : B3) (x4 : B4) (x5 : B5) (x6 : B6) (x7 : B7) (x8 : B8) (x9 : B9) (x10 : B10), sL10 F n x1 x2 x3 x4 x5 x6 x7 x8 x9 x10 → P x1 x2 x3 x4 x5 x6 x7 x8 x9 x10
  | 0, _, _, _, _, _, _, _, _, _, _ => fun h => h.elim
  | n + 1, x1, x2, x3, x4, x5, x6, x7, x8, x9, x10 => fun h => step (sL10 F n) (sL10_ind P step n) x1 x2 x3 x4 x5 x6 x7 x8 x9 x10 h
theorem sL10_of {B1 B2 B3 B4 B5 B6 B7 B8 B9 B10 : Type} {F : (B1 → B2 → B3 → B4 → B5 → B6 → B7 → B8 → B9 → B10 → Prop) → B1 → B2 → B3 → B4 → B5 → B6 → B7 → B8 → B9 → B10 → Prop} (I : B1 → B2 → B3 → B4 → B5 → B6 → B7 → B8 → B9 → B10 → Prop) (μ : B1 → B2 → B3 → B4 → B5 → B6 → B7 → B8 → B9 → B10 → Nat) (step : ∀ (k : B1 → B2 → B3 → B4 → B5 → B6 → B7 → B8 → B9 → B10 → Prop) (x1 : B1) (x2 : B2) (x3 : B3) (x4 : B4) (x5 : B5) (x6 : B6) (x7 : B7) (x8 : B8) (x9 : B9) (x10 : B10), I x1 x2 x3 x4 x5 x6 x7 x8 x9 x10 → (∀ (z1 : B1) (z2 : B2) (z3 : B3) (z4 : B4) (z5 : B5) (z6 : B6) (z7 : B7) (z8 : B8) (z9 : B9) (z10 : B10), I z1 z2 z3 z4 z5 z6 z7 z8 z9 z10 → μ z1 z2 z3 z4 z5 z6 z7 z8 z9 z10 < μ x1 x2 x3 x4 x5 x6 x7 x8 x9 x10 → k z1 z2 z3 z4 z5 z6 z7 z8 z9 z10) → F k x1 x2 x3 x4 x5 x6 x7 x8 x9 x10) (x1 : B1) (x2 : B2) (x3 : B3) (x4 : B4) (x5 : B5) (x6 : B6) (x7 : B7) (x8 : B8) (x9 : B9) (x10 : B10) (h : I x1 x2 x3 x4 x5 x6 x7 x8 x9 x10) : ∃ n, sL10 F n x1 x2 x3 x4 x5 x6 x7 x8 x9 x10 := by
  have key : ∀ (n : Nat) (x1 : B1) (x2 : B2) (x3 : B3) (x4 : B4) (x5 : B5) (x6 : B6) (x7 : B7) (x8 : B8) (x9 : B9) (x10 : B10), I x1 x2 x3 x4 x5 x6 x7 x8 x9 x10 → μ x1 x2 x3 x4 x5 x6 x7 x8 x9 x10 < n → sL10 F n x1 x2 x3 x4 x5 x6 x7 x8 x9 x10 := by
    intro n
    induction n with
    | zero => intro x1 x2 x3 x4 x5 x6 x7 x8 x9 x10 _ h; exact absurd h (Nat.not_lt_zero _)
    | succ n ih => intro x1 x2 x3 x4 x5 x6 x7 x8 x9 x10 hI hn; exact step (sL10 F n) x1 x2 x3 x4 x5 x6 x7 x8 x9 x10 hI (fun z1 z2 z3 z4 z5 z6 z7 z8 z9 z10 hI2 h2 => ih z1 z2 z3 z4 z5 z6 z7 z8 z9 z10 hI2 (by omega))
  exact ⟨_, key _ x1 x2 x3 x4 x5 x6 x7 x8 x9 x10 h (Nat.lt_succ_self _)⟩
def sL11 {B1 B2 B3 B4 B5 B6 B7 B8 B9 B10 B11 : Type} (F : (B1 → B2 → B3 → B4 → B5 → B6 → B7 → B8 → B9 → B10 → B11 → Prop) → B1 → B2 → B3 → B4 → B5 → B6 → B7 → B8 → B9 → B10 → B11 → Prop) : Nat → B1 → B2 → B3 → B4 → B5 → B6 → B7 → B8 → B9 → B10 → B11 → Prop
  | 0 => fun _ _ _ _ _ _ _ _ _ _ _ => False
  | n + 1 => F (sL11 F n)
theorem sL11_ind {B1 B2 B3 B4 B5 B6 B7 B8 B9 B10 B11 : Type} {F : (B1 → B2 → B3 → B4 → B5 → B6 → B7 → B8 → B9 → B10 → B11 → Prop) → B1 → B2 → B3 → B4 → B5 → B6 → B7 → B8 → B9 → B10 → B11 → Prop} (P : B1 → B2 → B3 → B4 → B5 → B6 → B7 → B8 → B9 → B10 → B11 → Prop) (step : ∀ k : B1 → B2 → B3 → B4 → B5 → B6 → B7 → B8 → B9 → B10 → B11 → Prop, (∀ (x1 : B1) (x2 : B2) (x3 : B3) (x4 : B4) (x5 : B5) (x6 : B6) (x7 : B7) (x8 : B8) (x9 : B9) (x10 : B10) (x11 : B11), k x1 x2 x3 x4 x5 x6 x7 x8 x9 x10 x11 → P x1 x2 x3 x4 x5 x6 x7 x8 x9 x10 x11) → ∀ (x1 : B1) (x2 : B2) (x3 : B3) (x4 : B4) (x5 : B5) (x6 : B6) (x7 : B7) (x8 : B8) (x9 : B9) (x10 : B10) (x11 : B11), F k x1 x2 x3 x4 x5 x6 x7 x8 x9 x10 x11 → P x1 x2 x3 x4 x5 x6 x7 x8 x9 x10 x11) : ∀ (n : Nat) (x1 : B1) (x2 : B2) (x3 : B3) (x4 : B4) (x5 : B5) (x6 : B6) (x7 : B7) (x8 : B8) (x9 : B9) (x10 : B10) (x11 : B11), sL11 F n x1 x2 x3 x4 x5 x6 x7 x8 x9 x10 x11 → P x1 x2 x3 x4 x5 x6 x7 x8 x9 x10 x11
  | 0, _, _, _, _, _, _, _, _, _, _, _ => fun h => h.elim
  | n + 1, x1, x2, x3, x4, x5, x6, x7, x8, x9, x10, x11 => fun h => step (sL11 F n) (sL11_ind P step n) x1 x2 x3 x4 x5 x6 x7 x8 x9 x10 x11 h
theorem sL11_of {B1 B2 B3 B4 B5 B6 B7 B8 B9 B10 B11 : Type} {F : (B1 → B2 → B3 → B4 → B5 → B6 → B7 → B8 → B9 → B10 → B11 → Prop) → B1 → B2 → B3 → B4 → B5 → B6 → B7 → B8 → B9 → B10 → B11 → Prop} (I : B1 → B2 → B3 → B4 → B5 → B6 → B7 → B8 → B9 → B10 → B11 → Prop) (μ : B1 → B2 → B3 → B4 → B5 → B6 → B7 → B8 → B9 → B10 → B11 → Nat) (step : ∀ (k : B1 → B2 → B3 → B4 → B5 → B6 → B7 → B8 → B9 → B10 → B11 → Prop) (x1 : B1) (x2 : B2) (x3 : B3) (x4 : B4) (x5 : B5) (x6 : B6) (x7 : B7) (x8 : B8) (x9 : B9) (x10 : B10) (x11 : B11), I x1 x2 x3 x4 x5 x6 x7 x8 x9 x10 x11 → (∀ (z1 : B1) (z2 : B2) (z3 : B3) (z4 : B4) (z5 : B5) (z6 : B6) (z7 : B7) (z8 : B8) (z9 : B9) (z10 : B10) (z11 : B11), I z1 z2 z3 z4 z5 z6 z7 z8 z9 z10 z11 → μ z1 z2 z3 z4 z5 z6 z7 z8 z9 z10 z11 < μ x1 x2 x3 x4 x5 x6 x7 x8 x9 x10 x11 → k z1 z2 z3 z4 z5 z6 z7 z8 z9 z10 z11) → F k x1 x2 x3 x4 x5 x6 x7 x8 x9 x10 x11) (x1 : B1) (x2 : B2) (x3 : B3) (x4 : B4) (x5 : B5) (x6 : B6) (x7 : B7) (x8 : B8) (x9 : B9) (x10 : B10) (x11 : B11) (h : I x1 x2 x3 x4 x5 x6 x7 x8 x9 x10 x11) : ∃ n, sL11 F n x1 x2 x3 x4 x5 x6 x7 x8 x9 x10 x11 := by
  have key : ∀ (n : Nat) (x1 : B1) (x2 : B2) (x3 : B3) (x4 : B4) (x5 : B5) (x6 : B6) (x7 : B7) (x8 : B8) (x9 : B9) (x10 : B10) (x11 : B11), I x1 x2 x3 x4 x5 x6 x7 x8 x9 x10 x11 → μ x1 x2 x3 x4 x5 x6 x7 x8 x9 x10 x11 < n → sL11 F n x1 x2 x3 x4 x5 x6 x7 x8 x9 x10 x11 := by
    intro n
    induction n with
    | zero => intro x1 x2 x3 x4 x5 x6 x7 x8 x9 x10 x11 _ h; exact absurd h (Nat.not_lt_zero _)
    | succ n ih => intro x1 x2 x3 x4 x5 x6 x7 x8 x9 x10 x11 hI hn; exact step (sL11 F n) x1 x2 x3 x4 x5 x6 x7 x8 x9 x10 x11 hI (fun z1 z2 z3 z4 z5 z6 z7 z8 z9 z10 z11 hI2 h2 => ih z1 z2 z3 z4 z5 z6 z7 z8 z9 z10 z11 hI2 (by omega))
  exact ⟨_, key _ x1 x2 x3 x4 x5 x6 x7 x8 x9 x10 x11 h (Nat.lt_succ_self _)⟩
def sL12 {B1 B2 B3 B4 B5 B6 B7 B8 B9 B10 B11 B12 : Type} (F : (B1 → B2 → B3 → B4 → B5 → B6 → B7 → B8 → B9 → B10 → B11 → B12 → Prop) → B1 → B2 → B3 → B4 → B5 → B6 → B7 → B8 → B9 → B10 → B11 → B12 → Prop) : Nat → B1 → B2 → B3 → B4 → B5 → B6 → B7 → B8 → B9 → B10 → B11 → B12 → Prop
  | 0 => fun _ _ _ _ _ _ _ _ _ _ _ _ => False
  | n + 1 => F (sL12 F n)
theorem sL12_ind {B1 B2 B3 B4 B5 B6 B7 B8 B9 B10 B11 B12 : Type} {F : (B1 → B2 → B3 → B4 → B5 → B6 → B7 → B8 → B9 → B10 → B11 → B12 → Prop) → B1 → B2 → B3 → B4 → B5 → B6 → B7 → B8 → B9 → B10 → B11 → B12 → Prop} (P : B1 → B2 → B3 → B4 → B5 → B6 → B7 → B8 → B9 → B10 → B11 → B12 → Prop) (step : ∀ k : B1 → B2 → B3 → B4 → B5 → B6 → B7 → B8 → B9 → B10 → B11 → B12 → Prop, (∀ (x1 : B1) (x2 : B2) (x3 : B3) (x4 : B4) (x5 : B5) (x6 : B6) (x7 : B7) (x8 : B8) (x9 : B9) (x10 : B10) (x11 : B11) (x12 : B12), k x1 x2 x3 x4 x5 x6 x7 x8 x9 x10 x11 x12 → P x1 x2 x3 x4 x5 x6 x7 x8 x9 x10 x11 x12) → ∀ (x1 : B1) (x2 : B2) (x3 : B3) (x4 : B4) (x5 : B5) (x6 : B6) (x7 : B7) (x8 : B8) (x9 : B9) (x10 : B10) (x11 : B11) (x12 : B12), F k x1 x2 x3 x4 x5 x6 x7 x8 x9 x10 x11 x12 → P x1 x2 x3 x4 x5 x6 x7 x8 x9 x10 x11 x12) : ∀ (n : Nat) (x1 : B1) (x2 : B2) (x3 : B3) (x4 : B4) (x5 : B5) (x6 : B6) (x7 : B7) (x8 : B8) (x9 : B9) (x10 : B10) (x11 : B11) (x12 : B12), sL12 F n x1 x2 x3 x4 x5 x6 x7 x8 x9 x10 x11 x12 → P x1 x2 x3 x4 x5 x6 x7 x8 x9 x10 x11 x12
  | 0, _, _, _, _, _, _, _, _, _, _, _, _ => fun h => h.elim
  | n + 1, x1, x2, x3, x4, x5, x6, x7, x8, x9, x10, x11, x12 => fun h => step (sL12 F n) (sL12_ind P step n) x1 x2 x3 x4 x5 x6 x7 x8 x9 x10 x11 x12 h
theorem sL12_of {B1 B2 B3 B4 B5 B6 B7 B8 B9 B10 B11 B12 : Type} {F : (B1 → B2 → B3 → B4 → B5 → B6 → B7 → B8 → B9 → B10 → B11 → B12 → Prop) → B1 → B2 → B3 → B4 → B5 → B6 → B7 → B8 → B9 → B10 → B11 → B12 → Prop} (I : B1 → B2 → B3 → B4 → B5 → B6 → B7 → B8 → B9 → B10 → B11 → B12 → Prop) (μ : B1 → B2 → B3 → B4 → B5 → B6 → B7 → B8 → B9 → B10 → B11 → B12 → Nat) (step : ∀ (k : B1 → B2 → B3 → B4 → B5 → B6 → B7 → B8 → B9 → B10 → B11 → B12 → Prop) (x1 : B1) (x2 : B2) (x3 : B3) (x4 : B4) (x5 : B5) (x6 : B6) (x7 : B7) (x8 : B8) (x9 : B9) (x10 : B10) (x11 : B11) (x12 : B12), I x1 x2 x3 x4 x5 x6 x7 x8 x9 x10 x11 x12 → (∀ (z1 : B1) (z2 : B2) (z3 : B3) (z4 : B4) (z5 : B5) (z6 : B6) (z7 : B7) (z8 : B8) (z9 : B9) (z10 : B10) (z11 : B11) (z12 : B12), I z1 z2 z3 z4 z5 z6 z7 z8 z9 z10 z11 z12 → μ z1 z2 z3 z4 z5 z6 z7 z8 z9 z10 z11 z12 < μ x1 x2 x3 x4 x5 x6 x7 x8 x9 x10 x11 x12 → k z1 z2 z3 z4 z5 z6 z7 z8 z9 z10 z11 z12) → F k x1 x2 x3 x4 x5 x6 x7 x8 x9 x10 x11 x12) (x1 : B1) (x2 : B2) (x3 : B3) (x4 : B4) (x5 : B5) (x6 : B6) (x7 : B7) (x8 : B8) (x9 : B9) (x10 : B10) (x11 : B11) (x12 : B12) (h : I x1 x2 x3 x4 x5 x6 x7 x8 x9 x10 x11 x12) : ∃ n, sL12 F n x1 x2 x3 x4 x5 x6 x7 x8 x9 x10 x11 x12 := by
  have key : ∀ (n : Nat) (x1 : B1) (x2 : B2) (x3 : B3) (x4 : B4) (x5 : B5) (x6 : B6) (x7 : B7) (x8 : B8) (x9 : B9) (x10 : B10) (x11 : B11) (x12 : B12), I x1 x2 x3 x4 x5 x6 x7 x8 x9 x10 x11 x12 → μ x1 x2 x3 x4 x5 x6 x7 x8 x9 x10 x11 x12 < n → sL12 F n x1 x2 x3 x4 x5 x6 x7 x8 x9 x10 x11 x12 := by
    intro n
    induction n with
    | zero => intro x1 x2 x3 x4 x5 x6 x7 x8 x9 x10 x11 x12 _ h; exact absurd h (Nat.not_lt_zero _)
    | succ n ih => intro x1 x2 x3 x4 x5 x6 x7 x8 x9 x10 x11 x12 hI hn; exact step (sL12 F n) x1 x2 x3 x4 x5 x6 x7 x8 x9 x10 x11 x12 hI (fun z1 z2 z3 z4 z5 z6 z7 z8 z9 z10 z11 z12 hI2 h2 => ih z1 z2 z3 z4 z5 z6 z7 z8 z9 z10 z11 z12 hI2 (by omega))
  exact ⟨_, key _ x1 x2 x3 x4 x5 x6 x7 x8 x9 x10 x11 x12 h (Nat.lt_succ_self _)⟩
def sL13 {B1 B2 B3 B4 B5 B6 B7 B8 B9 B10 B11 B12 B13 : Type} (F : (B1 → B2 → B3 → B4 → B5 → B6 → B7 → B8 → B9 → B10 → B11 → B12 → B13 → Prop) → B1 → B2 → B3 → B4 → B5 → B6 → B7 → B8 → B9 → B10 → B11 → B12 → B13 → Prop) : Nat → B1 → B2 → B3 → B4 → B5 → B6 → B7 → B8 → B9 → B10 → B11 → B12 → B13 → Prop
  | 0 => fun _ _ _ _ _ _ _ _ _ _ _ _ _ => False
  | n + 1 => F (sL13 F n)
theorem sL13_ind {B1 B2 B3 B4 B5 B6 B7 B8 B9 B10 B11 B12 B13 : Type} {F : (B1 → B2 → B3 → B4 → B5 → B6 → B7 → B8 → B9 → B10 → B11 → B12 → B13 → Prop) → B1 → B2 → B3 → B4 → B5 → B6 → B7 → B8 → B9 → B10 → B11 → B12 → B13 → Prop} (P : B1 → B2 → B3 → B4 → B5 → B6 → B7 → B8 → B9 → B10 → B11 → B12 → B13 → Prop) (step : ∀ k : B1 → B2 → B3 → B4 → B5 → B6 → B7 → B8 → B9 → B10 → B11 → B12 → B13 → Prop, (∀ (x1 : B1) (x2 : B2) (x3 : B3) (x4 : B4) (x5 : B5) (x6 : B6) (x7 : B7) (x8 : B8) (x9 : B9) (x10 : B10) (x11 : B11) (x12 : B12) (x13 : B13), k x1 x2 x3 x4 x5 x6 x7 x8 x9 x10 x11 x12 x13 → P x1 x2 x3 x4 x5 x6 x7 x8 x9 x10 x11 x12 x13) → ∀ (x1 : B1) (x2 : B2) (x3 : B3) (x4 : B4) (x5 : B5) (x6 : B6) (x7 : B7) (x8 : B8) (x9 : B9) (x10 : B10) (x11 : B11) (x12 : B12) (x13 : B13), F k x1 x2 x3 x4 x5 x6 x7 x8 x9 x10 x11 x12 x13 → P x1 x2 x3 x4 x5 x6 x7 x8 x9 x10 x11 x12 x13) : ∀ (n : Nat) (x1 : B1) (x2 : B2) (x3 : B3) (x4 : B4) (x5 : B5) (x6 : B6) (x7 : B7) (x8 : B8) (x9 : B9) (x10 : B10) (x11 : B11) (x12 : B12) (x13 : B13), sL13 F n x1 x2 x3 x4 x5 x6 x7 x8 x9 x10 x11 x12 x13 → P x1 x2 x3 x4 x5 x6 x7 x8 x9 x10 x11 x12 x13
  | 0, _, _, _, _, _, _, _, _, _, _, _, _, _ => fun h => h.elim
  | n + 1, x1, x2, x3, x4, x5, x6, x7, x8, x9, x10, x11, x12, x13 => fun h => step (sL13 F n) (sL13_ind P step n) x1 x2 x3 x4 x5 x6 x7 x8 x9 x10 x11 x12 x13 h
theorem sL13_of {B1 B2 B3 B4 B5 B6 B7 B8 B9 B10 B11 B12 B13 : Type} {F : (B1 → B2 → B3 → B4 → B5 → B6 → B7 → B8 → B9 → B10 → B11 → B12 → B13 → Prop) → B1 → B2 → B3 → B4 → B5 → B6 → B7 → B8 → B9 → B10 → B11 → B12 → B13 → Prop} (I : B1 → B2 → B3 → B4 → B5 → B6 → B7 → B8 → B9 → B10 → B11 → B12 → B13 → Prop) (μ : B1 → B2 → B3 → B4 → B5 → B6 → B7 → B8 → B9 → B10 → B11 → B12 → B13 → Nat) (step : ∀ (k : B1 → B2 → B3 → B4 → B5 → B6 → B7 → B8 → B9 → B10 → B11 → B12 → B13 → Prop) (x1 : B1) (x2 : B2) (x3 : B3) (x4 : B4) (x5 : B5) (x6 : B6) (x7 : B7) (x8 : B8) (x9 : B9) (x10 : B10) (x11 : B11) (x12 : B12) (x13 : B13), I x1 x2 x3 x4 x5 x6 x7 x8 x9 x10 x11 x12 x13 → (∀ (z1 : B1) (z2 : B2) (z3 : B3) (z4 : B4) (z5 : B5) (z6 : B6) (z7 : B7) (z8 : B8) (z9 : B9) (z10 : B10) (z11 : B11) (z12 : B12) (z13 : B13), I z1 z2 z3 z4 z5 z6 z7 z8 z9 z10 z11 z12 z13 → μ z1 z2 z3 z4 z5 z6 z7 z8 z9 z10 z11 z12 z13 < μ x1 x2 x3 x4 x5 x6 x7 x8 x9 x10 x11 x12 x13 → k z1 z2 z3 z4 z5 z6 z7 z8 z9 z10 z11 z12 z13) → F k x1 x2 x3 x4 x5 x6 x7 x8 x9 x10 x11 x12 x13) (x1 : B1) (x2 : B2) (x3 : B3) (x4 : B4) (x5 : B5) (x6 : B6) (x7 : B7) (x8 : B8) (x9 : B9) (x10 : B10) (x11 : B11) (x12 : B12) (x13 : B13) (h : I x1 x2 x3 x4 x5 x6 x7 x8 x9 x10 x11 x12 x13) : ∃ n, sL13 F n x1 x2 x3 x4 x5 x6 x7 x8 x9 x10 x11 x12 x13 := by
  have key : ∀ (n : Nat) (x1 : B1) (x2 : B2) (x3 : B3) (x4 : B4) (x5 : B5) (x6 : B6) (x7 : B7) (x8 : B8) (x9 : B9) (x10 : B10) (x11 : B11) (x12 : B12) (x13 : B13), I x1 x2 x3 x4 x5 x6 x7 x8 x9 x10 x11 x12 x13 → μ x1 x2 x3 x4 x5 x6 x7 x8 x9 x10 x11 x12 x13 < n → sL13 F n x1 x2 x3 x4 x5 x6 x7 x8 x9 x10 x11 x12 x13 := by
    intro n
    induction n with
    | zero => intro x1 x2 x3 x4 x5 x6 x7 x8 x9 x10 x11 x12 x13 _ h; exact absurd h (Nat.not_lt_zero _)
    | succ n ih => intro x1 x2 x3 x4 x5 x6 x7 x8 x9 x10 x11 x12 x13 hI hn; exact step (sL13 F n) x1 x2 x3 x4 x5 x6 x7 x8 x9 x10 x11 x12 x13 hI (fun z1 z2 z3 z4 z5 z6 z7 z8 z9 z10 z11 z12 z13 hI2 h2 => ih z1 z2 z3 z4 z5 z6 z7 z8 z9 z10 z11 z12 z13 hI2 (by omega))
  exact ⟨_, key _ x1 x2 x3 x4 x5 x6 x7 x8 x9 x10 x11 x12 x13 h (Nat.lt_succ_self _)⟩
def sL14 {B1 B2 B3 B4 B5 B6 B7 B8 B9 B10 B11 B12 B13 B14 : Type} (F : (B1 → B2 → B3 → B4 → B5 → B6 → B7 → B8 → B9 → B10 → B11 → B12 → B13 → B14 → Prop) → B1 → B2 → B3 → B4 → B5 → B6 → B7 → B8 → B9 → B10 → B11 → B12 → B13 → B14 → Prop) : Nat → B1 → B2 → B3 → B4 → B5 → B6 → B7 → B8 → B9 → B10 → B11 → B12 → B13 → B14 → Prop
  | 0 => fun _ _ _ _ _ _ _ _ _ _ _ _ _ _ => False
  | n + 1 => F (sL14 F n)
theorem sL14_ind {B1 B2 B3 B4 B5 B6 B7 B8 B9 B10 B11 B12 B13 B14 : Type} {F : (B1 → B2 → B3 → B4 → B5 → B6 → B7 → B8 → B9 → B10 → B11 → B12 → B13 → B14 → Prop) → B1 → B2 → B3 → B4 → B5 → B6 → B7 → B8 → B9 → B10 → B11 → B12 → B13 → B14 → Prop} (P : B1 → B2 → B3 → B4 → B5 → B6 → B7 → B8 → B9 → B10 → B11 → B12 → B13 → B14 → Prop) (step : ∀ k : B1 → B2 → B3 → B4 → B5 → B6 → B7 → B8 → B9 → B10 → B11 → B12 → B13 → B14 → Prop, (∀ (x1 : B1) (x2 : B2) (x3 : B3) (x4 : B4) (x5 : B5) (x6 : B6) (x7 : B7) (x8 : B8) (x9 : B9) (x10 : B10) (x11 : B11) (x12 : B12) (x13 : B13) (x14 : B14), k x1 x2 x3 x4 x5 x6 x7 x8 x9 x10 x11 x12 x13 x14 → P x1 x2 x3 x4 x5 x6 x7 x8 x9 x10 x11 x12 x13 x14) → ∀ (x1 : B1) (x2 : B2) (x3 : B3) (x4 : B4) (x5 : B5) (x6 : B6) (x7 : B7) (x8 : B8) (x9 : B9) (x10 : B10) (x11 : B11) (x12 : B12) (x13 : B13) (x14 : B14), F k x1 x2 x3 x4 x5 x6 x7 x8 x9 x10 x11 x12 x13 x14 → P x1 x2 x3 x4 x5 x6 x7 x8 x9 x10 x11 x12 x13 x14) : ∀ (n : Nat) (x1 : B1) (x2 : B2) (x3 : B3) (x4 : B4) (x5 : B5) (x6 : B6) (x7 : B7) (x8 : B8) (x9 : B9) (x10 : B10) (x11 : B11) (x12 : B12) (x13 : B13) (x14 : B14), sL14 F n x1 x2 x3 x4 x5 x6 x7 x8 x9 x10 x11 x12 x13 x14 → P x1 x2 x3 x4 x5 x6 x7 x8 x9 x10 x11 x12 x13 x14
  | 0, _, _, _, _, _, _, _, _, _, _, _, _, _, _ => fun h => h.elim
  | n + 1, x1, x2, x3, x4, x5, x6, x7, x8, x9, x10, x11, x12, x13, x14 => fun h => step (sL14 F n) (sL14_ind P step n) x1 x2 x3 x4 x5 x6 x7 x8 x9 x10 x11 x12 x13 x14 h
theorem sL14_of {B1 B2 B3 B4 B5 B6 B7 B8 B9 B10 B11 B12 B13 B14 : Type} {F : (B1 → B2 → B3 → B4 → B5 → B6 → B7 → B8 → B9 → B10 → B11 → B12 → B13 → B14 → Prop) → B1 → B2 → B3 → B4 → B5 → B6 → B7 → B8 → B9 → B10 → B11 → B12 → B13 → B14 → Prop} (I : B1 → B2 → B3 → B4 → B5 → B6 → B7 → B8 → B9 → B10 → B11 → B12 → B13 → B14 → Prop) (μ : B1 → B2 → B3 → B4 → B5 → B6 → B7 → B8 → B9 → B10 → B11 → B12 → B13 → B14 → Nat) (step : ∀ (k : B1 → B2 → B3 → B4 → B5 → B6 → B7 → B8 → B9 → B10 → B11 → B12 → B13 → B14 → Prop) (x1 : B1) (x2 : B2) (x3 : B3) (x4 : B4) (x5 : B5) (x6 : B6) (x7 : B7) (x8 : B8) (x9 : B9) (x10 : B10) (x11 : B11) (x12 : B12) (x13 : B13) (x14 : B14), I x1 x2 x3 x4 x5 x6 x7 x8 x9 x10 x11 x12 x13 x14 → (∀ (z1 : B1) (z2 : B2) (z3 : B3) (z4 : B4) (z5 : B5) (z6 : B6) (z7 : B7) (z8 : B8) (z9 : B9) (z10 : B10) (z11 : B11) (z12 : B12) (z13 : B13) (z14 : B14), I z1 z2 z3 z4 z5 z6 z7 z8 z9 z10 z11 z12 z13 z14 → μ z1 z2 z3 z4 z5 z6 z7 z8 z9 z10 z11 z12 z13 z14 < μ x1 x2 x3 x4 x5 x6 x7 x8 x9 x10 x11 x12 x13 x14 → k z1 z2 z3 z4 z5 z6 z7 z8 z9 z10 z11 z12 z13 z14) → F k x1 x2 x3 x4 x5 x6 x7 x8 x9 x10 x11 x12 x13 x14) (x1 : B1) (x2 : B2) (x3 : B3) (x4 : B4) (x5 : B5) (x6 : B6) (x7 : B7) (x8 : B8) (x9 : B9) (x10 : B10) (x11 : B11) (x12 : B12) (x13 : B13) (x14 : B14) (h : I x1 x2 x3 x4 x5 x6 x7 x8 x9 x10 x11 x12 x13 x14) : ∃ n, sL14 F n x1 x2 x3 x4 x5 x6 x7 x8 x9 x10 x11 x12 x13 x14 := by
  have key : ∀ (n : Nat) (x1 : B1) (x2 : B2) (x3 : B3) (x4 : B4) (x5 : B5) (x6 : B6) (x7 : B7) (x8 : B8) (x9 : B9) (x10 : B10) (x11 : B11) (x12 : B12) (x13 : B13) (x14 : B14), I x1 x2 x3 x4 x5 x6 x7 x8 x9 x10 x11 x12 x13 x14 → μ x1 x2 x3 x4 x5 x6 x7 x8 x9 x10 x11 x12 x13 x14 < n → sL14 F n x1 x2 x3 x4 x5 x6 x7 x8 x9 x10 x11 x12 x13 x14 := by
    intro n
    induction n with
    | zero => intro x1 x2 x3 x4 x5 x6 x7 x8 x9 x10 x11 x12 x13 x14 _ h; exact absurd h (Nat.not_lt_zero _)
    | succ n ih => intro x1 x2 x3 x4 x5 x6 x7 x8 x9 x10 x11 x12 x13 x14 hI hn; exact step (sL14 F n) x1 x2 x3 x4 x5 x6 x7 x8 x9 x10 x11 x12 x13 x14 hI (fun z1 z2 z3 z4 z5 z6 z7 z8 z9 z10 z11 z12 z13 z14 hI2 h2 => ih z1 z2 z3 z4 z5 z6 z7 z8 z9 z10 z11 z12 z13 z14 hI2 (by omega))
  exact ⟨_, key _ x1 x2 x3 x4 x5 x6 x7 x8 x9 x10 x11 x12 x13 x14 h (Nat.lt_succ_self _)⟩
def sL15 {B1 B2 B3 B4 B5 B6 B7 B8 B9 B10 B11 B12 B13 B14 B15 : Type} (F : (B1 → B2 → B3 → B4 → B5 → B6 → B7 → B8 → B9 → B10 → B11 → B12 → B13 → B14 → B15 → Prop) → B1 → B2 → B3 → B4 → B5 → B6 → B7 → B8 → B9 → B10 → B11 → B12 → B13 → B14 → B15 → Prop) : Nat → B1 → B2 → B3 → B4 → B5 → B6 → B7 → B8 → B9 → B10 → B11 → B12 → B13 → B14 → B15 → Prop
  | 0 => fun _ _ _ _ _ _ _ _ _ _ _ _ _ _ _ => False
  | n + 1 => F (sL15 F n)
theorem sL15_ind {B1 B2 B3 B4 B5 B6 B7 B8 B9 B10 B11 B12 B13 B14 B15 : Type} {F : (B1 → B2 → B3 → B4 → B5 → B6 → B7 → B8 → B9 → B10 → B11 → B12 → B13 → B14 → B15 → Prop) → B1 → B2 → B3 → B4 → B5 → B6 → B7 → B8 → B9 → B10 → B11 → B12 → B13 → B14 → B15 → Prop} (P : B1 → B2 → B3 → B4 → B5 → B6 → B7 → B8 → B9 → B10 → B11 → B12 → B13 → B14 → B15 → Prop) (step : ∀ k : B1 → B2 → B3 → B4 → B5 → B6 → B7 → B8 → B9 → B10 → B11 → B12 → B13 → B14 → B15 → Prop, (∀ (x1 : B1) (x2 : B2) (x3 : B3) (x4 : B4) (x5 : B5) (x6 : B6) (x7 : B7) (x8 : B8) (x9 : B9) (x10 : B10) (x11 : B11) (x12 : B12) (x13 : B13) (x14 : B14) (x15 : B15), k x1 x2 x3 x4 x5 x6 x7 x8 x9 x10 x11 x12 x13 x14 x15 → P x1 x2 x3 x4 x5 x6 x7 x8 x9 x10 x11 x12 x13 x14 x15) → ∀ (x1 : B1) (x2 : B2) (x3 : B3) (x4 : B4) (x5 : B5) (x6 : B6) (x7 : B7) (x8 : B8) (x9 : B9) (x10 : B10) (x11 : B11) (x12 : B12) (x13 : B13) (x14 : B14) (x15 : B15), F k x1 x2 x3 x4 x5 x6 x7 x8 x9 x10 x11 x12 x13 x14 x15 → P x1 x2 x3 x4 x5 x6 x7 x8 x9 x10 x11 x12 x13 x14 x15) : ∀ (n : Nat) (x1 : B1) (x2 : B2) (x3 : B3) (x4 : B4) (x5 : B5) (x6 : B6) (x7 : B7) (x8 : B8) (x9 : B9) (x10 : B10) (x11 : B11) (x12 : B12) (x13 : B13) (x14 : B14) (x15 : B15), sL15 F n x1 x2 x3 x4 x5 x6 x7 x8 x9 x10 x11 x12 x13 x14 x15 → P x1 x2 x3 x4 x5 x6 x7 x8 x9 x10 x11 x12 x13 x14 x15
  | 0, _, _, _, _, _, _, _, _, _, _, _, _, _, _, _ => fun h => h.elim
  | n + 1, x1, x2, x3, x4, x5, x6, x7, x8, x9, x10, x11, x12, x13, x14, x15 => fun h => step (sL15 F n) (sL15_ind P step n) x1 x2 x3 x4 x5 x6 x7 x8 x9 x10 x11 x12 x13 x14 x15 h
theorem sL15_of {B1 B2 B3 B4 B5 B6 B7 B8 B9 B10 B11 B12 B13 B14 B15 : Type} {F : (B1 → B2 → B3 → B4 → B5 → B6 → B7 → B8 → B9 → B10 → B11 → B12 → B13 → B14 → B15 → Prop) → B1 → B2 → B3 → B4 → B5 → B6 → B7 → B8 → B9 → B10 → B11 → B12 → B13 → B14 → B15 → Prop} (I : B1 → B2 → B3 → B4 → B5 → B6 → B7 → B8 → B9 → B10 → B11 → B12 → B13 → B14 → B15 → Prop) (μ : B1 → B2 → B3 → B4 → B5 → B6 → B7 → B8 → B9 → B10 → B11 → B12 → B13 → B14 → B15 → Nat) (step : ∀ (k : B1 → B2 → B3 → B4 → B5 → B6 → B7 → B8 → B9 → B10 → B11 → B12 → B13 → B14 → B15 → Prop) (x1 : B1) (x2 : B2) (x3 : B3) (x4 : B4) (x5 : B5) (x6 : B6) (x7 : B7) (x8 : B8) (x9 : B9) (x10 : B10) (x11 : B11) (x12 : B12) (x13 : B13) (x14 : B14) (x15 : B15), I x1 x2 x3 x4 x5 x6 x7 x8 x9 x10 x11 x12 x13 x14 x15 → (∀ (z1 : B1) (z2 : B2) (z3 : B3) (z4 : B4) (z5 : B5) (z6 : B6) (z7 : B7) (z8 : B8) (z9 : B9) (z10 : B10) (z11 : B11) (z12 : B12) (z13 : B13) (z14 : B14) (z15 : B15), I z1 z2 z3 z4 z5 z6 z7 z8 z9 z10 z11 z12 z13 z14 z15 → μ z1 z2 z3 z4 z5 z6 z7 z8 z9 z10 z11 z12 z13 z14 z15 < μ x1 x2 x3 x4 x5 x6 x7 x8 x9 x10 x11 x12 x13 x14 x15 → k z1 z2 z3 z4 z5 z6 z7 z8 z9 z10 z11 z12 z13 z14 z15) → F k x1 x2 x3 x4 x5 x6 x7 x8 x9 x10 x11 x12 x13 x14 x15) (x1 : B1) (x2 : B2) (x3 : B3) (x4 : B4) (x5 : B5) (x6 : B6) (x7 : B7) (x8 : B8) (x9 : B9) (x10 : B10) (x11 : B11) (x12 : B12) (x13 : B13) (x14 : B14) (x15 : B15) (h : I x1 x2 x3 x4 x5 x6 x7 x8 x9 x10 x11 x12 x13 x14 x15) : ∃ n, sL15 F n x1 x2 x3 x4 x5 x6 x7 x8 x9 x10 x11 x12 x13 x14 x15 := by
  have key : ∀ (n : Nat) (x1 : B1) (x2 : B2) (x3 : B3) (x4 : B4) (x5 : B5) (x6 : B6) (x7 : B7) (x8 : B8) (x9 : B9) (x10 : B10) (x11 : B11) (x12 : B12) (x13 : B13) (x14 : B14) (x15 : B15), I x1 x2 x3 x4 x5 x6 x7 x8 x9 x10 x11 x12 x13 x14 x15 → μ x1 x2 x3 x4 x5 x6 x7 x8 x9 x10 x11 x12 x13 x14 x15 < n → sL15 F n x1 x2 x3 x4 x5 x6 x7 x8 x9 x10 x11 x12 x13 x14 x15 := by
    intro n
    induction n with
    | zero => intro x1 x2 x3 x4 x5 x6 x7 x8 x9 x10 x11 x12 x13 x14 x15 _ h; exact absurd h (Nat.not_lt_zero _)
    | succ n ih => intro x1 x2 x3 x4 x5 x6 x7 x8 x9 x10 x11 x12 x13 x14 x15 hI hn; exact step (sL15 F n) x1 x2 x3 x4 x5 x6 x7 x8 x9 x10 x11 x12 x13 x14 x15 hI (fun z1 z2 z3 z4 z5 z6 z7 z8 z9 z10 z11 z12 z13 z14 z15 hI2 h2 => ih z1 z2 z3 z4 z5 z6 z7 z8 z9 z10 z11 z12 z13 z14 z15 hI2 (by omega))
  exact ⟨_, key _ x1 x2 x3 x4 x5 x6 x7 x8 x9 x10 x11 x12 x13 x14 x15 h (Nat.lt_succ_self _)⟩
def sL16 {B1 B2 B3 B4 B5 B6 B7 B8 B9 B10 B11 B12 B13 B14 B15 B16 : Type} (F : (B1 → B2 → B3 → B4 → B5 → B6 → B7 → B8 → B9 → B10 → B11 → B12 → B13 → B14 → B15 → B16 → Prop) → B1 → B2 → B3 → B4 → B5 → B6 → B7 → B8 → B9 → B10 → B11 → B12 → B13 → B14 → B15 → B16 → Prop) : Nat → B1 → B2 → B3 → B4 → B5 → B6 → B7 → B8 → B9 → B10 → B11 → B12 → B13 → B14 → B15 → B16 → Prop
  | 0 => fun _ _ _ _ _ _ _ _ _ _ _ _ _ _ _ _ => False
  | n + 1 => F (sL16 F n)
theorem sL16_ind {B1 B2 B3 B4 B5 B6 B7 B8 B9 B10 B11 B12 B13 B14 B15 B16 : Type} {F : (B1 → B2 → B3 → B4 → B5 → B6 → B7 → B8 → B9 → B10 → B11 → B12 → B13 → B14 → B15 → B16 → Prop) → B1 → B2 → B3 → B4 → B5 → B6 → B7 → B8 → B9 → B10 → B11 → B12 → B13 → B14 → B15 → B16 → Prop} (P : B1 → B2 → B3 → B4 → B5 → B6 → B7 → B8 → B9 → B10 → B11 → B12 → B13 → B14 → B15 → B16 → Prop) (step : ∀ k : B1 → B2 → B3 → B4 → B5 → B6 → B7 → B8 → B9 → B10 → B11 → B12 → B13 → B14 → B15 → B16 → Prop, (∀ (x1 : B1) (x2 : B2) (x3 : B3) (x4 : B4) (x5 : B5) (x6 : B6) (x7 : B7) (x8 : B8) (x9 : B9) (x10 : B10) (x11 : B11) (x12 : B12) (x13 : B13) (x14 : B14) (x15 : B15) (x16 : B16), k x1 x2 x3 x4 x5 x6 x7 x8 x9 x10 x11 x12 x13 x14 x15 x16 → P x1 x2 x3 x4 x5 x6 x7 x8 x9 x10 x11 x12 x13 x14 x15 x16) → ∀ (x1 : B1) (x2 : B2) (x3 : B3) (x4 : B4) (x5 : B5) (x6 : B6) (x7 : B7) (x8 : B8) (x9 : B9) (x10 : B10) (x11 : B11) (x12 : B12) (x13 : B13) (x14 : B14) (x15 : B15) (x16 : B16), F k x1 x2 x3 x4 x5 x6 x7 x8 x9 x10 x11 x12 x13 x14 x15 x16 → P x1 x2 x3 x4 x5 x6 x7 x8 x9 x10 x11 x12 x13 x14 x15 x16) : ∀ (n : Nat) (x1 : B1) (x2 : B2) (x3 : B3) (x4 : B4) (x5 : B5) (x6 : B6) (x7 : B7) (x8 : B8) (x9 : B9) (x10 : B10) (x11 : B11) (x12 : B12) (x13 : B13) (x14 : B14) (x15 : B15) (x16 : B16), sL16 F n x1 x2 x3 x4 x5 x6 x7 x8 x9 x10 x11 x12 x13 x14 x15 x16 → P x1 x2 x3 x4 x5 x6 x7 x8 x9 x10 x11 x12 x13 x14 x15 x16
  | 0, _, _, _, _, _, _, _, _, _, _, _, _, _, _, _, _ => fun h => h.elim
  | n + 1, x1, x2, x3, x4, x5, x6, x7, x8, x9, x10, x11, x12, x13, x14, x15, x16 => fun h => step (sL16 F n) (sL16_ind P step n) x1 x2 x3 x4 x5 x6 x7 x8 x9 x10 x11 x12 x13 x14 x15 x16 h
theorem sL16_of {B1 B2 B3 B4 B5 B6 B7 B8 B9 B10 B11 B12 B13 B14 B15 B16 : Type} {F : (B1 → B2 → B3 → B4 → B5 → B6 → B7 → B8 → B9 → B10 → B11 → B12 → B13 → B14 → B15 → B16 → Prop) → B1 → B2 → B3 → B4 → B5 → B6 → B7 → B8 → B9 → B10 → B11 → B12 → B13 → B14 → B15 → B16 → Prop} (I : B1 → B2 → B3 → B4 → B5 → B6 → B7 → B8 → B9 → B10 → B11 → B12 → B13 → B14 → B15 → B16 → Prop) (μ : B1 → B2 → B3 → B4 → B5 → B6 → B7 → B8 → B9 → B10 → B11 → B12 → B13 → B14 → B15 → B16 → Nat) (step : ∀ (k : B1 → B2 → B3 → B4 → B5 → B6 → B7 → B8 → B9 → B10 → B11 → B12 → B13 → B14 → B15 → B16 → Prop) (x1 : B1) (x2 : B2) (x3 : B3) (x4 : B4) (x5 : B5) (x6 : B6) (x7 : B7) (x8 : B8) (x9 : B9) (x10 : B10) (x11 : B11) (x12 : B12) (x13 : B13) (x14 : B14) (x15 : B15) (x16 : B16), I x1 x2 x3 x4 x5 x6 x7 x8 x9 x10 x11 x12 x13 x14 x15 x16 → (∀ (z1 : B1) (z2 : B2) (z3 : B3) (z4 : B4) (z5 : B5) (z6 : B6) (z7 : B7) (z8 : B8) (z9 : B9) (z10 : B10) (z11 : B11) (z12 : B12) (z13 : B13) (z14 : B14) (z15 : B15) (z16 : B16), I z1 z2 z3 z4 z5 z6 z7 z8 z9 z10 z11 z12 z13 z14 z15 z16 → μ z1 z2 z3 z4 z5 z6 z7 z8 z9 z10 z11 z12 z13 z14 z15 z16 < μ x1 x2 x3 x4 x5 x6 x7 x8 x9 x10 x11 x12 x13 x14 x15 x16 → k z1 z2 z3 z4 z5 z6 z7 z8 z9 z10 z11 z12 z13 z14 z15 z16) → F k x1 x2 x3 x4 x5 x6 x7 x8 x9 x10 x11 x12 x13 x14 x15 x16) (x1 : B1) (x2 : B2) (x3 : B3) (x4 : B4) (x5 : B5) (x6 : B6) (x7 : B7) (x8 : B8) (x9 : B9) (x10 : B10) (x11 : B11) (x12 : B12) (x13 : B13) (x14 : B14) (x15 : B15) (x16 : B16) (h : I x1 x2 x3 x4 x5 x6 x7 x8 x9 x10 x11 x12 x13 x14 x15 x16) : ∃ n, sL16 F n x1 x2 x3 x4 x5 x6 x7 x8 x9 x10 x11 x12 x13 x14 x15 x16 := by
  have key : ∀ (n : Nat) (x1 : B1) (x2 : B2) (x3 : B3) (x4 : B4) (x5 : B5) (x6 : B6) (x7 : B7) (x8 : B8) (x9 : B9) (x10 : B10) (x11 : B11) (x12 : B12) (x13 : B13) (x14 : B14) (x15 : B15) (x16 : B16), I x1 x2 x3 x4 x5 x6 x7 x8 x9 x10 x11 x12 x13 x14 x15 x16 → μ x1 x2 x3 x4 x5 x6 x7 x8 x9 x10 x11 x12 x13 x14 x15 x16 < n → sL16 F n x1 x2 x3 x4 x5 x6 x7 x8 x9 x10 x11 x12 x13 x14 x15 x16 := by
    intro n
    induction n with
    | zero => intro x1 x2 x3 x4 x5 x6 x7 x8 x9 x10 x11 x12 x13 x14 x15 x16 _ h; exact absurd h (Nat.not_lt_zero _)
    | succ n ih => intro x1 x2 x3 x4 x5 x6 x7 x8 x9 x10 x11 x12 x13 x14 x15 x16 hI hn; exact step (sL16 F n) x1 x2 x3 x4 x5 x6 x7 x8 x9 x10 x11 x12 x13 x14 x15 x16 hI (fun z1 z2 z3 z4 z5 z6 z7 z8 z9 z10 z11 z12 z13 z14 z15 z16 hI2 h2 => ih z1 z2 z3 z4 z5 z6 z7 z8 z9 z10 z11 z12 z13 z14 z15 z16 hI2 (by omega))
  exact ⟨_, key _ x1 x2 x3 x4 x5 x6 x7 x8 x9 x10 x11 x12 x13 x14 x15 x16 h (Nat.lt_succ_self _)⟩
def sL17 {B1 B2 B3 B4 B5 B6 B7 B8 B9 B10 B11 B12 B13 B14 B15 B16 B17 : Type} (F : (B1 → B2 → B3 → B4 → B5 → B6 → B7 → B8 → B9 → B10 → B11 → B12 → B13 → B14 → B15 → B16 → B17 → Prop) → B1 → B2 → B3 → B4 → B5 → B6 → B7 → B8 → B9 → B10 → B11 → B12 → B13 → B14 → B15 → B16 → B17 → Prop) : Nat → B1 → B2 → B3 → B4 → B5 → B6 → B7 → B8 → B9 → B10 → B11 → B12 → B13 → B14 → B15 → B16 → B17 → Prop
  | 0 => fun _ _ _ _ _ _ _ _ _ _ _ _ _ _ _ _ _ => False
  | n + 1 => F (sL17 F n)
theorem sL17_ind {B1 B2 B3 B4 B5 B6 B7 B8 B9 B10 B11 B12 B13 B14 B15 B16 B17 : Type} {F : (B1 → B2 → B3 → B4 → B5 → B6 → B7 → B8 → B9 → B10 → B11 → B12 → B13 → B14 → B15 → B16 → B17 → Prop) → B1 → B2 → B3 → B4 → B5 → B6 → B7 → B8 → B9 → B10 → B11 → B12 → B13 → B14 → B15 → B16 → B17 → Prop} (P : B1 → B2 → B3 → B4 → B5 → B6 → B7 → B8 → B9 → B10 → B11 → B12 → B13 → B14 → B15 → B16 → B17 → Prop) (step : ∀ k : B1 → B2 → B3 → B4 → B5 → B6 → B7 → B8 → B9 → B10 → B11 → B12 → B13 → B14 → B15 → B16 → B17 → Prop, (∀ (x1 : B1) (x2 : B2) (x3 : B3) (x4 : B4) (x5 : B5) (x6 : B6) (x7 : B7) (x8 : B8) (x9 : B9) (x10 : B10) (x11 : B11) (x12 : B12) (x13 : B13) (x14 : B14) (x15 : B15) (x16 : B16) (x17 : B17), k x1 x2 x3 x4 x5 x6 x7 x8 x9 x10 x11 x12 x13 x14 x15 x16 x17 → P x1 x2 x3 x4 x5 x6 x7 x8 x9 x10 x11 x12 x13 x14 x15 x16 x17) → ∀ (x1 : B1) (x2 : B2) (x3 : B3) (x4 : B4) (x5 : B5) (x6 : B6) (x7 : B7) (x8 : B8) (x9 : B9) (x10 : B10) (x11 : B11) (x12 : B12) (x13 : B13) (x14 : B14) (x15 : B15) (x16 : B16) (x17 : B17), F k x1 x2 x3 x4 x5 x6 x7 x8 x9 x10 x11 x12 x13 x14 x15 x16 x17 → P x1 x2 x3 x4 x5 x6 x7 x8 x9 x10 x11 x12 x13 x14 x15 x16 x17) : ∀ (n : Nat) (x1 : B1) (x2 : B2) (x3 : B3) (x4 : B4) (x5 : B5) (x6 : B6) (x7 : B7) (x8 : B8) (x9 : B9) (x10 : B10) (x11 : B11) (x12 : B12) (x13 : B13) (x14 : B14) (x15 : B15) (x16 : B16) (x17 : B17), sL17 F n x1 x2 x3 x4 x5 x6 x7 x8 x9 x10 x11 x12 x13 x14 x15 x16 x17 → P x1 x2 x3 x4 x5 x6 x7 x8 x9 x10 x11 x12 x13 x14 x15 x16 x17
  | 0, _, _, _, _, _, _, _, _, _, _, _, _, _, _, _, _, _ => fun h => h.elim
  | n + 1, x1, x2, x3, x4, x5, x6, x7, x8, x9, x10, x11, x12, x13, x14, x15, x16, x17 => fun h => step (sL17 F n) (sL17_ind P step n) x1 x2 x3 x4 x5 x6 x7 x8 x9 x10 x11 x12 x13 x14 x15 x16 x17 h
theorem sL17_of {B1 B2 B3 B4 B5 B6 B7 B8 B9 B10 B11 B12 B13 B14 B15 B16 B17 : Type} {F : (B1 → B2 → B3 → B4 → B5 → B6 → B7 → B8 → B9 → B10 → B11 → B12 → B13 → B14 → B15 → B16 → B17 → Prop) → B1 → B2 → B3 → B4 → B5 → B6 → B7 → B8 → B9 → B10 → B11 → B12 → B13 → B14 → B15 → B16 → B17 → Prop} (I : B1 → B2 → B3 → B4 → B5 → B6 → B7 → B8 → B9 → B10 → B11 → B12 → B13 → B14 → B15 → B16 → B17 → Prop) (μ : B1 → B2 → B3 → B4 → B5 → B6 → B7 → B8 → B9 → B10 → B11 → B12 → B13 → B14 → B15 → B16 → B17 → Nat) (step : ∀ (k : B1 → B2 → B3 → B4 → B5 → B6 → B7 → B8 → B9 → B10 → B11 → B12 → B13 → B14 → B15 → B16 → B17 → Prop) (x1 : B1) (x2 : B2) (x3 : B3) (x4 : B4) (x5 : B5) (x6 : B6) (x7 : B7) (x8 : B8) (x9 : B9) (x10 : B10) (x11 : B11) (x12 : B12) (x13 : B13) (x14 : B14) (x15 : B15) (x16 : B16) (x17 : B17), I x1 x2 x3 x4 x5 x6 x7 x8 x9 x10 x11 x12 x13 x14 x15 x16 x17 → (∀ (z1 : B1) (z2 : B2) (z3 : B3) (z4 : B4) (z5 : B5) (z6 : B6) (z7 : B7) (z8 : B8) (z9 : B9) (z10 : B10) (z11 : B11) (z12 : B12) (z13 : B13) (z14 : B14) (z15 : B15) (z16 : B16) (z17 : B17), I z1 z2 z3 z4 z5 z6 z7 z8 z9 z10 z11 z12 z13 z14 z15 z16 z17 → μ z1 z2 z3 z4 z5 z6 z7 z8 z9 z10 z11 z12 z13 z14 z15 z16 z17 < μ x1 x2 x3 x4 x5 x6 x7 x8 x9 x10 x11 x12 x13 x14 x15 x16 x17 → k z1 z2 z3 z4 z5 z6 z7 z8 z9 z10 z11 z12 z13 z14 z15 z16 z17) → F k x1 x2 x3 x4 x5 x6 x7 x8 x9 x10 x11 x12 x13 x14 x15 x16 x17) (x1 : B1) (x2 : B2) (x3 : B3) (x4 : B4) (x5 : B5) (x6 : B6) (x7 : B7) (x8 : B8) (x9 : B9) (x10 : B10) (x11 : B11) (x12 : B12) (x13 : B13) (x14 : B14) (x15 : B15) (x16 : B16) (x17 : B17) (h : I x1 x2 x3 x4 x5 x6 x7 x8 x9 x10 x11 x12 x13 x14 x15 x16 x17) : ∃ n, sL17 F n x1 x2 x3 x4 x5 x6 x7 x8 x9 x10 x11 x12 x13 x14 x15 x16 x17 := by
  have key : ∀ (n : Nat) (x1 : B1) (x2 : B2) (x3 : B3) (x4 : B4) (x5 : B5) (x6 : B6) (x7 : B7) (x8 : B8) (x9 : B9) (x10 : B10) (x11 : B11) (x12 : B12) (x13 : B13) (x14 : B14) (x15 : B15) (x16 : B16) (x17 : B17), I x1 x2 x3 x4 x5 x6 x7 x8 x9 x10 x11 x12 x13 x14 x15 x16 x17 → μ x1 x2 x3 x4 x5 x6 x7 x8 x9 x10 x11 x12 x13 x14 x15 x16 x17 < n → sL17 F n x1 x2 x3 x4 x5 x6 x7 x8 x9 x10 x11 x12 x13 x14 x15 x16 x17 := by
    intro n
    induction n with
    | zero => intro x1 x2 x3 x4 x5 x6 x7 x8 x9 x10 x11 x12 x13 x14 x15 x16 x17 _ h; exact absurd h (Nat.not_lt_zero _)
    | succ n ih => intro x1 x2 x3 x4 x5 x6 x7 x8 x9 x10 x11 x12 x13 x14 x15 x16 x17 hI hn; exact step (sL17 F n) x1 x2 x3 x4 x5 x6 x7 x8 x9 x10 x11 x12 x13 x14 x15 x16 x17 hI (fun z1 z2 z3 z4 z5 z6 z7 z8 z9 z10 z11 z12 z13 z14 z15 z16 z17 hI2 h2 => ih z1 z2 z3 z4 z5 z6 z7 z8 z9 z10 z11 z12 z13 z14 z15 z16 z17 hI2 (by omega))
  exact ⟨_, key _ x1 x2 x3 x4 x5 x6 x7 x8 x9 x10 x11 x12 x13 x14 x15 x16 x17 h (Nat.lt_succ_self _)⟩
def sL18 {B1 B2 B3 B4 B5 B6 B7 B8 B9 B10 B11 B12 B13 B14 B15 B16 B17 B18 : Type} (F : (B1 → B2 → B3 → B4 → B5 → B6 → B7 → B8 → B9 → B10 → B11 → B12 → B13 → B14 → B15 → B16 → B17 → B18 → Prop) → B1 → B2 → B3 → B4 → B5 → B6 → B7 → B8 → B9 → B10 → B11 → B12 → B13 → B14 → B15 → B16 → B17 → B18 → Prop) : Nat → B1 → B2 → B3 → B4 → B5 → B6 → B7 → B8 → B9 → B10 → B11 → B12 → B13 → B14 → B15 → B16 → B17 → B18 → Prop
  | 0 => fun _ _ _ _ _ _ _ _ _ _ _ _ _ _ _ _ _ _ => False
  | n + 1 => F (sL18 F n)
theorem sL18_ind {B1 B2 B3 B4 B5 B6 B7 B8 B9 B10 B11 B12 B13 B14 B15 B16 B17 B18 : Type} {F : (B1 → B2 → B3 → B4 → B5 → B6 → B7 → B8 → B9 → B10 → B11 → B12 → B13 → B14 → B15 → B16 → B17 → B18 → Prop) → B1 → B2 → B3 → B4 → B5 → B6 → B7 → B8 → B9 → B10 → B11 → B12 → B13 → B14 → B15 → B16 → B17 → B18 → Prop} (P : B1 → B2 → B3 → B4 → B5 → B6 → B7 → B8 → B9 → B10 → B11 → B12 → B13 → B14 → B15 → B16 → B17 → B18 → Prop) (step : ∀ k : B1 → B2 → B3 → B4 → B5 → B6 → B7 → B8 → B9 → B10 → B11 → B12 → B13 → B14 → B15 → B16 → B17 → B18 → Prop, (∀ (x1 : B1) (x2 : B2) (x3 : B3) (x4 : B4) (x5 : B5) (x6 : B6) (x7 : B7) (x8 : B8) (x9 : B9) (x10 : B10) (x11 : B11) (x12 : B12) (x13 : B13) (x14 : B14) (x15 : B15) (x16 : B16) (x17 : B17) (x18 : B18), k x1 x2 x3 x4 x5 x6 x7 x8 x9 x10 x11 x12 x13 x14 x15 x16 x17 x18 → P x1 x2 x3 x4 x5 x6 x7 x8 x9 x10 x11 x12 x13 x14 x15 x16 x17 x18) → ∀ (x1 : B1) (x2 : B2) (x3 : B3) (x4 : B4) (x5 : B5) (x6 : B6) (x7 : B7) (x8 : B8) (x9 : B9) (x10 : B10) (x11 : B11) (x12 : B12) (x13 : B13) (x14 : B14) (x15 : B15) (x16 : B16) (x17 : B17) (x18 : B18), F k x1 x2 x3 x4 x5 x6 x7 x8 x9 x10 x11 x12 x13 x14 x15 x16 x17 x18 → P x1 x2 x3 x4 x5 x6 x7 x8 x9 x10 x11 x12 x13 x14 x15 x16 x17 x18) : ∀ (n : Nat) (x1 : B1) (x2 : B2) (x3 : B3) (x4 : B4) (x5 : B5) (x6 : B6) (x7 : B7) (x8 : B8) (x9 : B9) (x10 : B10) (x11 : B11) (x12 : B12) (x13 : B13) (x14 : B14) (x15 : B15) (x16 : B16) (x17 : B17) (x18 : B18), sL18 F n x1 x2 x3 x4 x5 x6 x7 x8 x9 x10 x11 x12 x13 x14 x15 x16 x17 x18 → P x1 x2 x3 x4 x5 x6 x7 x8 x9 x10 x11 x12 x13 x14 x15 x16 x17 x18
  | 0, _, _, _, _, _, _, _, _, _, _, _, _, _, _, _, _, _, _ => fun h => h.elim
  | n + 1, x1, x2, x3, x4, x5, x6, x7, x8, x9, x10, x11, x12, x13, x14, x15, x16, x17, x18 => fun h => step (sL18 F n) (sL18_ind P step n) x1 x2 x3 x4 x5 x6 x7 x8 x9 x10 x11 x12 x13 x14 x15 x16 x17 x18 h
theorem sL18_of {B1 B2 B3 B4 B5 B6 B7 B8 B9 B10 B11 B12 B13 B14 B15 B16 B17 B18 : Type} {F : (B1 → B2 → B3 → B4 → B5 → B6 → B7 → B8 → B9 → B10 → B11 → B12 → B13 → B14 → B15 → B16 → B17 → B18 → Prop) → B1 → B2 → B3 → B4 → B5 → B6 → B7 → B8 → B9 → B10 → B11 → B12 → B13 → B14 → B15 → B16 → B17 → B18 → Prop} (I : B1 → B2 → B3 → B4 → B5 → B6 → B7 → B8 → B9 → B10 → B11 → B12 → B13 → B14 → B15 → B16 → B17 → B18 → Prop) (μ : B1 → B2 → B3 → B4 → B5 → B6 → B7 → B8 → B9 → B10 → B11 → B12 → B13 → B14 → B15 → B16 → B17 → B18 → Nat) (step : ∀ (k : B1 → B2 → B3 → B4 → B5 → B6 → B7 → B8 → B9 → B10 → B11 → B12 → B13 → B14 → B15 → B16 → B17 → B18 → Prop) (x1 : B1) (x2 : B2) (x3 : B3) (x4 : B4) (x5 : B5) (x6 : B6) (x7 : B7) (x8 : B8) (x9 : B9) (x10 : B10) (x11 : B11) (x12 : B12) (x13 : B13) (x14 : B14) (x15 : B15) (x16 : B16) (x17 : B17) (x18 : B18), I x1 x2 x3 x4 x5 x6 x7 x8 x9 x10 x11 x12 x13 x14 x15 x16 x17 x18 → (∀ (z1 : B1) (z2 : B2) (z3 : B3) (z4 : B4) (z5 : B5) (z6 : B6) (z7 : B7) (z8 : B8) (z9 : B9) (z10 : B10) (z11 : B11) (z12 : B12) (z13 : B13) (z14 : B14) (z15 : B15) (z16 : B16) (z17 : B17) (z18 : B18), I z1 z2 z3 z4 z5 z6 z7 z8 z9 z10 z11 z12 z13 z14 z15 z16 z17 z18 → μ z1 z2 z3 z4 z5 z6 z7 z8 z9 z10 z11 z12 z13 z14 z15 z16 z17 z18 < μ x1 x2 x3 x4 x5 x6 x7 x8 x9 x10 x11 x12 x13 x14 x15 x16 x17 x18 → k z1 z2 z3 z4 z5 z6 z7 z8 z9 z10 z11 z12 z13 z14 z15 z16 z17 z18) → F k x1 x2 x3 x4 x5 x6 x7 x8 x9 x10 x11 x12 x13 x14 x15 x16 x17 x18) (x1 : B1) (x2 : B2) (x3 : B3) (x4 : B4) (x5 : B5) (x6 : B6) (x7 : B7) (x8 : B8) (x9 : B9) (x10 : B10) (x11 : B11) (x12 : B12) (x13 : B13) (x14 : B14) (x15 : B15) (x16 : B16) (x17 : B17) (x18 : B18) (h : I x1 x2 x3 x4 x5 x6 x7 x8 x9 x10 x11 x12 x13 x14 x15 x16 x17 x18) : ∃ n, sL18 F n x1 x2 x3 x4 x5 x6 x7 x8 x9 x10 x11 x12 x13 x14 x15 x16 x17 x18 := by
  have key : ∀ (n : Nat) (x1 : B1) (x2 : B2) (x3 : B3) (x4 : B4) (x5 : B5) (x6 : B6) (x7 : B7) (x8 : B8) (x9 : B9) (x10 : B10) (x11 : B11) (x12 : B12) (x13 : B13) (x14 : B14) (x15 : B15) (x16 : B16) (x17 : B17) (x18 : B18), I x1 x2 x3 x4 x5 x6 x7 x8 x9 x10 x11 x12 x13 x14 x15 x16 x17 x18 → μ x1 x2 x3 x4 x5 x6 x7 x8 x9 x10 x11 x12 x13 x14 x15 x16 x17 x18 < n → sL18 F n x1 x2 x3 x4 x5 x6 x7 x8 x9 x10 x11 x12 x13 x14 x15 x16 x17 x18 := by
    intro n
    induction n with
    | zero => intro x1 x2 x3 x4 x5 x6 x7 x8 x9 x10 x11 x12 x13 x14 x15 x16 x17 x18 _ h; exact absurd h (Nat.not_lt_zero _)
    | succ n ih => intro x1 x2 x3 x4 x5 x6 x7 x8 x9 x10 x11 x12 x13 x14 x15 x16 x17 x18 hI hn; exact step (sL18 F n) x1 x2 x3 x4 x5 x6 x7 x8 x9 x10 x11 x12 x13 x14 x15 x16 x17 x18 hI (fun z1 z2 z3 z4 z5 z6 z7 z8 z9 z10 z11 z12 z13 z14 z15 z16 z17 z18 hI2 h2 => ih z1 z2 z3 z4 z5 z6 z7 z8 z9 z10 z11 z12 z13 z14 z15 z16 z17 z18 hI2 (by omega))
  exact ⟨_, key _ x1 x2 x3 x4 x5 x6 x7 x8 x9 x10 x11 x12 x13 x14 x15 x16 x17 x18 h (Nat.lt_succ_self _)⟩
def sL19 {B1 B2 B3 B4 B5 B6 B7 B8 B9 B10 B11 B12 B13 B14 B15 B16 B17 B18 B19 : Type} (F : (B1 → B2 → B3 → B4 → B5 → B6 → B7 → B8 → B9 → B10 → B11 → B12 → B13 → B14 → B15 → B16 → B17 → B18 → B19 → Prop) → B1 → B2 → B3 → B4 → B5 → B6 → B7 → B8 → B9 → B10 → B11 → B12 → B13 → B14 → B15 → B16 → B17 → B18 → B19 → Prop) : Nat → B1 → B2 → B3 → B4 → B5 → B6 → B7 → B8 → B9 → B10 → B11 → B12 → B13 → B14 → B15 → B16 → B17 → B18 → B19 → Prop
  | 0 => fun _ _ _ _ _ _ _ _ _ _ _ _ _ _ _ _ _ _ _ => False
  | n + 1 => F (sL19 F n)
theorem sL19_ind {B1 B2 B3 B4 B5 B6 B7 B8 B9 B10 B11 B12 B13 B14 B15 B16 B17 B18 B19 : Type} {F : (B1 → B2 → B3 → B4 → B5 → B6 → B7 → B8 → B9 → B10 → B11 → B12 → B13 → B14 → B15 → B16 → B17 → B18 → B19 → Prop) → B1 → B2 → B3 → B4 → B5 → B6 → B7 → B8 → B9 → B10 → B11 → B12 → B13 → B14 → B15 → B16 → B17 → B18 → B19 → Prop} (P : B1 → B2 → B3 → B4 → B5 → B6 → B7 → B8 → B9 → B10 → B11 → B12 → B13 → B14 → B15 → B16 → B17 → B18 → B19 → Prop) (step : ∀ k : B1 → B2 → B3 → B4 → B5 → B6 → B7 → B8 → B9 → B10 → B11 → B12 → B13 → B14 → B15 → B16 → B17 → B18 → B19 → Prop, (∀ (x1 : B1) (x2 : B2) (x3 : B3) (x4 : B4) (x5 : B5) (x6 : B6) (x7 : B7) (x8 : B8) (x9 : B9) (x10 : B10) (x11 : B11) (x12 : B12) (x13 : B13) (x14 : B14) (x15 : B15) (x16 : B16) (x17 : B17) (x18 : B18) (x19 : B19), k x1 x2 x3 x4 x5 x6 x7 x8 x9 x10 x11 x12 x13 x14 x15 x16 x17 x18 x19 → P x1 x2 x3 x4 x5 x6 x7 x8 x9 x10 x11 x12 x13 x14 x15 x16 x17 x18 x19) → ∀ (x1 : B1) (x2 : B2) (x3 : B3) (x4 : B4) (x5 : B5) (x6 : B6) (x7 : B7) (x8 : B8) (x9 : B9) (x10 : B10) (x11 : B11) (x12 : B12) (x13 : B13) (x14 : B14) (x15 : B15) (x16 : B16) (x17 : B17) (x18 : B18) (x19 : B19), F k x1 x2 x3 x4 x5 x6 x7 x8 x9 x10 x11 x12 x13 x14 x15 x16 x17 x18 x19 → P x1 x2 x3 x4 x5 x6 x7 x8 x9 x10 x11 x12 x13 x14 x15 x16 x17 x18 x19) : ∀ (n : Nat) (x1 : B1) (x2 : B2) (x3 : B3) (x4 : B4) (x5 : B5) (x6 : B6) (x7 : B7) (x8 : B8) (x9 : B9) (x10 : B10) (x11 : B11) (x12 : B12) (x13 : B13) (x14 : B14) (x15 : B15) (x16 : B16) (x17 : B17) (x18 : B18) (x19 : B19), sL19 F n x1 x2 x3 x4 x5 x6 x7 x8 x9 x10 x11 x12 x13 x14 x15 x16 x17 x18 x19 → P x1 x2 x3 x4 x5 x6 x7 x8 x9 x10 x11 x12 x13 x14 x15 x16 x17 x18 x19
  | 0, _, _, _, _, _, _, _, _, _, _, _, _, _, _, _, _, _, _, _ => fun h => h.elim
  | n + 1, x1, x2, x3, x4, x5, x6, x7, x8, x9, x10, x11, x12, x13, x14, x15, x16, x17, x18, x19 => fun h => step (sL19 F n) (sL19_ind P step n) x1 x2 x3 x4 x5 x6 x7 x8 x9 x10 x11 x12 x13 x14 x15 x16 x17 x18 x19 h
theorem sL19_of {B1 B2 B3 B4 B5 B6 B7 B8 B9 B10 B11 B12 B13 B14 B15 B16 B17 B18 B19 : Type} {F : (B1 → B2 → B3 → B4 → B5 → B6 → B7 → B8 → B9 → B10 → B11 → B12 → B13 → B14 → B15 → B16 → B17 → B18 → B19 → Prop) → B1 → B2 → B3 → B4 → B5 → B6 → B7 → B8 → B9 → B10 → B11 → B12 → B13 → B14 → B15 → B16 → B17 → B18 → B19 → Prop} (I : B1 → B2 → B3 → B4 → B5 → B6 → B7 → B8 → B9 → B10 → B11 → B12 → B13 → B14 → B15 → B16 → B17 → B18 → B19 → Prop) (μ : B1 → B2 → B3 → B4 → B5 → B6 → B7 → B8 → B9 → B10 → B11 → B12 → B13 → B14 → B15 → B16 → B17 → B18 → B19 → Nat) (step : ∀ (k : B1 → B2 → B3 → B4 → B5 → B6 → B7 → B8 → B9 → B10 → B11 → B12 → B13 → B14 → B15 → B16 → B17 → B18 → B19 → Prop) (x1 : B1) (x2 : B2) (x3 : B3) (x4 : B4) (x5 : B5) (x6 : B6) (x7 : B7) (x8 : B8) (x9 : B9) (x10 : B10) (x11 : B11) (x12 : B12) (x13 : B13) (x14 : B14) (x15 : B15) (x16 : B16) (x17 : B17) (x18 : B18) (x19 : B19), I x1 x2 x3 x4 x5 x6 x7 x8 x9 x10 x11 x12 x13 x14 x15 x16 x17 x18 x19 → (∀ (z1 : B1) (z2 : B2) (z3 : B3) (z4 : B4) (z5 : B5) (z6 : B6) (z7 : B7) (z8 : B8) (z9 : B9) (z10 : B10) (z11 : B11) (z12 : B12) (z13 : B13) (z14 : B14) (z15 : B15) (z16 : B16) (z17 : B17) (z18 : B18) (z19 : B19), I z1 z2 z3 z4 z5 z6 z7 z8 z9 z10 z11 z12 z13 z14 z15 z16 z17 z18 z19 → μ z1 z2 z3 z4 z5 z6 z7 z8 z9 z10 z11 z12 z13 z14 z15 z16 z17 z18 z19 < μ x1 x2 x3 x4 x5 x6 x7 x8 x9 x10 x11 x12 x13 x14 x15 x16 x17 x18 x19 → k z1 z2 z3 z4 z5 z6 z7 z8 z9 z10 z11 z12 z13 z14 z15 z16 z17 z18 z19) → F k x1 x2 x3 x4 x5 x6 x7 x8 x9 x10 x11 x12 x13 x14 x15 x16 x17 x18 x19) (x1 : B1) (x2 : B2) (x3 : B3) (x4 : B4) (x5 : B5) (x6 : B6) (x7 : B7) (x8 : B8) (x9 : B9) (x10 : B10) (x11 : B11) (x12 : B12) (x13 : B13) (x14 : B14) (x15 : B15) (x16 : B16) (x17 : B17) (x18 : B18) (x19 : B19) (h : I x1 x2 x3 x4 x5 x6 x7 x8 x9 x10 x11 x12 x13 x14 x15 x16 x17 x18 x19) : ∃ n, sL19 F n x1 x2 x3 x4 x5 x6 x7 x8 x9 x10 x11 x12 x13 x14 x15 x16 x17 x18 x19 := by
  have key : ∀ (n : Nat) (x1 : B1) (x2 : B2) (x3 : B3) (x4 : B4) (x5 : B5) (x6 : B6) (x7 : B7) (x8 : B8) (x9 : B9) (x10 : B10) (x11 : B11) (x12 : B12) (x13 : B13) (x14 : B14) (x15 : B15) (x16 : B16) (x17 : B17) (x18 : B18) (x19 : B19), I x1 x2 x3 x4 x5 x6 x7 x8 x9 x10 x11 x12 x13 x14 x15 x16 x17 x18 x19 → μ x1 x2 x3 x4 x5 x6 x7 x8 x9 x10 x11 x12 x13 x14 x15 x16 x17 x18 x19 < n → sL19 F n x1 x2 x3 x4 x5 x6 x7 x8 x9 x10 x11 x12 x13 x14 x15 x16 x17 x18 x19 := by
    intro n
    induction n with
    | zero => intro x1 x2 x3 x4 x5 x6 x7 x8 x9 x10 x11 x12 x13 x14 x15 x16 x17 x18 x19 _ h; exact absurd h (Nat.not_lt_zero _)
    | succ n ih => intro x1 x2 x3 x4 x5 x6 x7 x8 x9 x10 x11 x12 x13 x14 x15 x16 x17 x18 x19 hI hn; exact step (sL19 F n) x1 x2 x3 x4 x5 x6 x7 x8 x9 x10 x11 x12 x13 x14 x15 x16 x17 x18 x19 hI (fun z1 z2 z3 z4 z5 z6 z7 z8 z9 z10 z11 z12 z13 z14 z15 z16 z17 z18 z19 hI2 h2 => ih z1 z2 z3 z4 z5 z6 z7 z8 z9 z10 z11 z12 z13 z14 z15 z16 z17 z18 z19 hI2 (by omega))
  exact ⟨_, key _ x1 x2 x3 x4 x5 x6 x7 x8 x9 x10 x11 x12 x13 x14 x15 x16 x17 x18 x19 h (Nat.lt_succ_self _)⟩
def sL20 {B1 B2 B3 B4 B5 B6 B7 B8 B9 B10 B11 B12 B13 B14 B15 B16 B17 B18 B19 B20 : Type} (F : (B1 → B2 → B3 → B4 → B5 → B6 → B7 → B8 → B9 → B10 → B11 → B12 → B13 → B14 → B15 → B16 → B17 → B18 → B19 → B20 → Prop) → B1 → B2 → B3 → B4 → B5 → B6 → B7 → B8 → B9 → B10 → B11 → B12 → B13 → B14 → B15 → B16 → B17 → B18 → B19 → B20 → Prop) : Nat → B1 → B2 → B3 → B4 → B5 → B6 → B7 → B8 → B9 → B10 → B11 → B12 → B13 → B14 → B15 → B16 → B17 → B18 → B19 → B20 → Prop
  | 0 => fun _ _ _ _ _ _ _ _ _ _ _ _ _ _ _ _ _ _ _ _ => False
  | n + 1 => F (sL20 F n)
theorem sL20_ind {B1 B2 B3 B4 B5 B6 B7 B8 B9 B10 B11 B12 B13 B14 B15 B16 B17 B18 B19 B20 : Type} {F : (B1 → B2 → B3 → B4 → B5 → B6 → B7 → B8 → B9 → B10 → B11 → B12 → B13 → B14 → B15 → B16 → B17 → B18 → B19 → B20 → Prop) → B1 → B2 → B3 → B4 → B5 → B6 → B7 → B8 → B9 → B10 → B11 → B12 → B13 → B14 → B15 → B16 → B17 → B18 → B19 → B20 → Prop} (P : B1 → B2 → B3 → B4 → B5 → B6 → B7 → B8 → B9 → B10 → B11 → B12 → B13 → B14 → B15 → B16 → B17 → B18 → B19 → B20 → Prop) (step : ∀ k : B1 → B2 → B3 → B4 → B5 → B6 → B7 → B8 → B9 → B10 → B11 → B12 → B13 → B14 → B15 → B16 → B17 → B18 → B19 → B20 → Prop, (∀ (x1 : B1) (x2 : B2) (x3 : B3) (x4 : B4) (x5 : B5) (x6 : B6) (x7 : B7) (x8 : B8) (x9 : B9) (x10 : B10) (x11 : B11) (x12 : B12) (x13 : B13) (x14 : B14) (x15 : B15) (x16 : B16) (x17 : B17) (x18 : B18) (x19 : B19) (x20 : B20), k x1 x2 x3 x4 x5 x6 x7 x8 x9 x10 x11 x12 x13 x14 x15 x16 x17 x18 x19 x20 → P x1 x2 x3 x4 x5 x6 x7 x8 x9 x10 x11 x12 x13 x14 x15 x16 x17 x18 x19 x20) → ∀ (x1 : B1) (x2 : B2) (x3 : B3) (x4 : B4) (x5 : B5) (x6 : B6) (x7 : B7) (x8 : B8) (x9 : B9) (x10 : B10) (x11 : B11) (x12 : B12) (x13 : B13) (x14 : B14) (x15 : B15) (x16 : B16) (x17 : B17) (x18 : B18) (x19 : B19) (x20 : B20), F k x1 x2 x3 x4 x5 x6 x7 x8 x9 x10 x11 x12 x13 x14 x15 x16 x17 x18 x19 x20 → P x1 x2 x3 x4 x5 x6 x7 x8 x9 x10 x11 x12 x13 x14 x15 x16 x17 x18 x19 x20) : ∀ (n : Nat) (x1 : B1) (x2 : B2) (x3 : B3) (x4 : B4) (x5 : B5) (x6 : B6) (x7 : B7) (x8 : B8) (x9 : B9) (x10 : B10) (x11 : B11) (x12 : B12) (x13 : B13) (x14 : B14) (x15 : B15) (x16 : B16) (x17 : B17) (x18 : B18) (x19 : B19) (x20 : B20), sL20 F n x1 x2 x3 x4 x5 x6 x7 x8 x9 x10 x11 x12 x13 x14 x15 x16 x17 x18 x19 x20 → P x1 x2 x3 x4 x5 x6 x7 x8 x9 x10 x11 x12 x13 x14 x15 x16 x17 x18 x19 x20
  | 0, _, _, _, _, _, _, _, _, _, _, _, _, _, _, _, _, _, _, _, _ => fun h => h.elim
  | n + 1, x1, x2, x3, x4, x5, x6, x7, x8, x9, x10, x11, x12, x13, x14, x15, x16, x17, x18, x19, x20 => fun h => step (sL20 F n) (sL20_ind P step n) x1 x2 x3 x4 x5 x6 x7 x8 x9 x10 x11 x12 x13 x14 x15 x16 x17 x18 x19 x20 h
theorem sL20_of {B1 B2 B3 B4 B5 B6 B7 B8 B9 B10 B11 B12 B13 B14 B15 B16 B17 B18 B19 B20 : Type} {F : (B1 → B2 → B3 → B4 → B5 → B6 → B7 → B8 → B9 → B10 → B11 → B12 → B13 → B14 → B15 → B16 → B17 → B18 → B19 → B20 → Prop) → B1 → B2 → B3 → B4 → B5 → B6 → B7 → B8 → B9 → B10 → B11 → B12 → B13 → B14 → B15 → B16 → B17 → B18 → B19 → B20 → Prop} (I : B1 → B2 → B3 → B4 → B5 → B6 → B7 → B8 → B9 → B10 → B11 → B12 → B13 → B14 → B15 → B16 → B17 → B18 → B19 → B20 → Prop) (μ : B1 → B2 → B3 → B4 → B5 → B6 → B7 → B8 → B9 → B10 → B11 → B12 → B13 → B14 → B15 → B16 → B17 → B18 → B19 → B20 → Nat) (step : ∀ (k : B1 → B2 → B3 → B4 → B5 → B6 → B7 → B8 → B9 → B10 → B11 → B12 → B13 → B14 → B15 → B16 → B17 → B18 → B19 → B20 → Prop) (x1 : B1) (x2 : B2) (x3 : B3) (x4 : B4) (x5 : B5) (x6 : B6) (x7 : B7) (x8 : B8) (x9 : B9) (x10 : B10) (x11 : B11) (x12 : B12) (x13 : B13) (x14 : B14) (x15 : B15) (x16 : B16) (x17 : B17) (x18 : B18) (x19 : B19) (x20 : B20), I x1 x2 x3 x4 x5 x6 x7 x8 x9 x10 x11 x12 x13 x14 x15 x16 x17 x18 x19 x20 → (∀ (z1 : B1) (z2 : B2) (z3 : B3) (z4 : B4) (z5 : B5) (z6 : B6) (z7 : B7) (z8 : B8) (z9 : B9) (z10 : B10) (z11 : B11) (z12 : B12) (z13 : B13) (z14 : B14) (z15 : B15) (z16 : B16) (z17 : B17) (z18 : B18) (z19 : B19) (z20 : B20), I z1 z2 z3 z4 z5 z6 z7 z8 z9 z10 z11 z12 z13 z14 z15 z16 z17 z18 z19 z20 → μ z1 z2 z3 z4 z5 z6 z7 z8 z9 z10 z11 z12 z13 z14 z15 z16 z17 z18 z19 z20 < μ x1 x2 x3 x4 x5 x6 x7 x8 x9 x10 x11 x12 x13 x14 x15 x16 x17 x18 x19 x20 → k z1 z2 z3 z4 z5 z6 z7 z8 z9 z10 z11 z12 z13 z14 z15 z16 z17 z18 z19 z20) → F k x1 x2 x3 x4 x5 x6 x7 x8 x9 x10 x11 x12 x13 x14 x15 x16 x17 x18 x19 x20) (x1 : B1) (x2 : B2) (x3 : B3) (x4 : B4) (x5 : B5) (x6 : B6) (x7 : B7) (x8 : B8) (x9 : B9) (x10 : B10) (x11 : B11) (x12 : B12) (x13 : B13) (x14 : B14) (x15 : B15) (x16 : B16) (x17 : B17) (x18 : B18) (x19 : B19) (x20 : B20) (h : I x1 x2 x3 x4 x5 x6 x7 x8 x9 x10 x11 x12 x13 x14 x15 x16 x17 x18 x19 x20) : ∃ n, sL20 F n x1 x2 x3 x4 x5 x6 x7 x8 x9 x10 x11 x12 x13 x14 x15 x16 x17 x18 x19 x20 := by
  have key : ∀ (n : Nat) (x1 : B1) (x2 : B2) (x3 : B3) (x4 : B4) (x5 : B5) (x6 : B6) (x7 : B7) (x8 : B8) (x9 : B9) (x10 : B10) (x11 : B11) (x12 : B12) (x13 : B13) (x14 : B14) (x15 : B15) (x16 : B16) (x17 : B17) (x18 : B18) (x19 : B19) (x20 : B20), I x1 x2 x3 x4 x5 x6 x7 x8 x9 x10 x11 x12 x13 x14 x15 x16 x17 x18 x19 x20 → μ x1 x2 x3 x4 x5 x6 x7 x8 x9 x10 x11 x12 x13 x14 x15 x16 x17 x18 x19 x20 < n → sL20 F n x1 x2 x3 x4 x5 x6 x7 x8 x9 x10 x11 x12 x13 x14 x15 x16 x17 x18 x19 x20 := by
    intro n
    induction n with
    | zero => intro x1 x2 x3 x4 x5 x6 x7 x8 x9 x10 x11 x12 x13 x14 x15 x16 x17 x18 x19 x20 _ h; exact absurd h (Nat.not_lt_zero _)
    | succ n ih => intro x1 x2 x3 x4 x5 x6 x7 x8 x9 x10 x11 x12 x13 x14 x15 x16 x17 x18 x19 x20 hI hn; exact step (sL20 F n) x1 x2 x3 x4 x5 x6 x7 x8 x9 x10 x11 x12 x13 x14 x15 x16 x17 x18 x19 x20 hI (fun z1 z2 z3 z4 z5 z6 z7 z8 z9 z10 z11 z12 z13 z14 z15 z16 z17 z18 z19 z20 hI2 h2 => ih z1 z2 z3 z4 z5 z6 z7 z8 z9 z10 z11 z12 z13 z14 z15 z16 z17 z18 z19 z20 hI2 (by omega))
  exact ⟨_, key _ x1 x2 x3 x4 x5 x6 x7 x8 x9 x10 x11 x12 x13 x14 x15 x16 x17 x18 x19 x20 h (Nat.lt_succ_self _)⟩
def sL21 {B1 B2 B3 B4 B5 B6 B7 B8 B9 B10 B11 B12 B13 B14 B15 B16 B17 B18 B19 B20 B21 : Type} (F : (B1 → B2 → B3 → B4 → B5 → B6 → B7 → B8 → B9 → B10 → B11 → B12 → B13 → B14 → B15 → B16 → B17 → B18 → B19 → B20 → B21 → Prop) → B1 → B2 → B3 → B4 → B5 → B6 → B7 → B8 → B9 → B10 → B11 → B12 → B13 → B14 → B15 → B16 → B17 → B18 → B19 → B20 → B21 → Prop) : Nat → B1 → B2 → B3 → B4 → B5 → B6 → B7 → B8 → B9 → B10 → B11 → B12 → B13 → B14 → B15 → B16 → B17 → B18 → B19 → B20 → B21 → Prop
  | 0 => fun _ _ _ _ _ _ _ _ _ _ _ _ _ _ _ _ _ _ _ _ _ => False
  | n + 1 => F (sL21 F n)
theorem sL21_ind {B1 B2 B3 B4 B5 B6 B7 B8 B9 B10 B11 B12 B13 B14 B15 B16 B17 B18 B19 B20 B21 : Type} {F : (B1 → B2 → B3 → B4 → B5 → B6 → B7 → B8 → B9 → B10 → B11 → B12 → B13 → B14 → B15 → B16 → B17 → B18 → B19 → B20 → B21 → Prop) → B1 → B2 → B3 → B4 → B5 → B6 → B7 → B8 → B9 → B10 → B11 → B12 → B13 → B14 → B15 → B16 → B17 → B18 → B19 → B20 → B21 → Prop} (P : B1 → B2 → B3 → B4 → B5 → B6 → B7 → B8 → B9 → B10 → B11 → B12 → B13 → B14 → B15 → B16 → B17 → B18 → B19 → B20 → B21 → Prop) (step : ∀ k : B1 → B2 → B3 → B4 → B5 → B6 → B7 → B8 → B9 → B10 → B11 → B12 → B13 → B14 → B15 → B16 → B17 → B18 → B19 → B20 → B21 → Prop, (∀ (x1 : B1) (x2 : B2) (x3 : B3) (x4 : B4) (x5 : B5) (x6 : B6) (x7 : B7) (x8 : B8) (x9 : B9) (x10 : B10) (x11 : B11) (x12 : B12) (x13 : B13) (x14 : B14) (x15 : B15) (x16 : B16) (x17 : B17) (x18 : B18) (x19 : B19) (x20 : B20) (x21 : B21), k x1 x2 x3 x4 x5 x6 x7 x8 x9 x10 x11 x12 x13 x14 x15 x16 x17 x18 x19 x20 x21 → P x1 x2 x3 x4 x5 x6 x7 x8 x9 x10 x11 x12 x13 x14 x15 x16 x17 x18 x19 x20 x21) → ∀ (x1 : B1) (x2 : B2) (x3 : B3) (x4 : B4) (x5 : B5) (x6 : B6) (x7 : B7) (x8 : B8) (x9 : B9) (x10 : B10) (x11 : B11) (x12 : B12) (x13 : B13) (x14 : B14) (x15 : B15) (x16 : B16) (x17 : B17) (x18 : B18) (x19 : B19) (x20 : B20) (x21 : B21), F k x1 x2 x3 x4 x5 x6 x7 x8 x9 x10 x11 x12 x13 x14 x15 x16 x17 x18 x19 x20 x21 → P x1 x2 x3 x4 x5 x6 x7 x8 x9 x10 x11 x12 x13 x14 x15 x16 x17 x18 x19 x20 x21) : ∀ (n : Nat) (x1 : B1) (x2 : B2) (x3 : B3) (x4 : B4) (x5 : B5) (x6 : B6) (x7 : B7) (x8 : B8) (x9 : B9) (x10 : B10) (x11 : B11) (x12 : B12) (x13 : B13) (x14 : B14) (x15 : B15) (x16 : B16) (x17 : B17) (x18 : B18) (x19 : B19) (x20 : B20) (x21 : B21), sL21 F n x1 x2 x3 x4 x5 x6 x7 x8 x9 x10 x11 x12 x13 x14 x15 x16 x17 x18 x19 x20 x21 → P x1 x2 x3 x4 x5 x6 x7 x8 x9 x10 x11 x12 x13 x14 x15 x16 x17 x18 x19 x20 x21
  | 0, _, _, _, _, _, _, _, _, _, _, _, _, _, _, _, _, _, _, _, _, _ => fun h => h.elim
  | n + 1, x1, x2, x3, x4, x5, x6, x7, x8, x9, x10, x11, x12, x13, x14, x15, x16, x17, x18, x19, x20, x21 => fun h => step (sL21 F n) (sL21_ind P step n) x1 x2 x3 x4 x5 x6 x7 x8 x9 x10 x11 x12 x13 x14 x15 x16 x17 x18 x19 x20 x21 h
theorem sL21_of {B1 B2 B3 B4 B5 B6 B7 B8 B9 B10 B11 B12 B13 B14 B15 B16 B17 B18 B19 B20 B21 : Type} {F : (B1 → B2 → B3 → B4 → B5 → B6 → B7 → B8 → B9 → B10 → B11 → B12 → B13 → B14 → B15 → B16 → B17 → B18 → B19 → B20 → B21 → Prop) → B1 → B2 → B3 → B4 → B5 → B6 → B7 → B8 → B9 → B10 → B11 → B12 → B13 → B14 → B15 → B16 → B17 → B18 → B19 → B20 → B21 → Prop} (I : B1 → B2 → B3 → B4 → B5 → B6 → B7 → B8 → B9 → B10 → B11 → B12 → B13 → B14 → B15 → B16 → B17 → B18 → B19 → B20 → B21 → Prop) (μ : B1 → B2 → B3 → B4 → B5 → B6 → B7 → B8 → B9 → B10 → B11 → B12 → B13 → B14 → B15 → B16 → B17 → B18 → B19 → B20 → B21 → Nat) (step : ∀ (k : B1 → B2 → B3 → B4 → B5 → B6 → B7 → B8 → B9 → B10 → B11 → B12 → B13 → B14 → B15 → B16 → B17 → B18 → B19 → B20 → B21 → Prop) (x1 : B1) (x2 : B2) (x3 : B3) (x4 : B4) (x5 : B5) (x6 : B6) (x7 : B7) (x8 : B8) (x9 : B9) (x10 : B10) (x11 : B11) (x12 : B12) (x13 : B13) (x14 : B14) (x15 : B15) (x16 : B16) (x17 : B17) (x18 : B18) (x19 : B19) (x20 : B20) (x21 : B21), I x1 x2 x3 x4 x5 x6 x7 x8 x9 x10 x11 x12 x13 x14 x15 x16 x17 x18 x19 x20 x21 → (∀ (z1 : B1) (z2 : B2) (z3 : B3) (z4 : B4) (z5 : B5) (z6 : B6) (z7 : B7) (z8 : B8) (z9 : B9) (z10 : B10) (z11 : B11) (z12 : B12) (z13 : B13) (z14 : B14) (z15 : B15) (z16 : B16) (z17 : B17) (z18 : B18) (z19 : B19) (z20 : B20) (z21 : B21), I z1 z2 z3 z4 z5 z6 z7 z8 z9 z10 z11 z12 z13 z14 z15 z16 z17 z18 z19 z20 z21 → μ z1 z2 z3 z4 z5 z6 z7 z8 z9 z10 z11 z12 z13 z14 z15 z16 z17 z18 z19 z20 z21 < μ x1 x2 x3 x4 x5 x6 x7 x8 x9 x10 x11 x12 x13 x14 x15 x16 x17 x18 x19 x20 x21 → k z1 z2 z3 z4 z5 z6 z7 z8 z9 z10 z11 z12 z13 z14 z15 z16 z17 z18 z19 z20 z21) → F k x1 x2 x3 x4 x5 x6 x7 x8 x9 x10 x11 x12 x13 x14 x15 x16 x17 x18 x19 x20 x21) (x1 : B1) (x2 : B2) (x3 : B3) (x4 : B4) (x5 : B5) (x6 : B6) (x7 : B7) (x8 : B8) (x9 : B9) (x10 : B10) (x11 : B11) (x12 : B12) (x13 : B13) (x14 : B14) (x15 : B15) (x16 : B16) (x17 : B17) (x18 : B18) (x19 : B19) (x20 : B20) (x21 : B21) (h : I x1 x2 x3 x4 x5 x6 x7 x8 x9 x10 x11 x12 x13 x14 x15 x16 x17 x18 x19 x20 x21) : ∃ n, sL21 F n x1 x2 x3 x4 x5 x6 x7 x8 x9 x10 x11 x12 x13 x14 x15 x16 x17 x18 x19 x20 x21 := by
  have key : ∀ (n : Nat) (x1 : B1) (x2 : B2) (x3 : B3) (x4 : B4) (x5 : B5) (x6 : B6) (x7 : B7) (x8 : B8) (x9 : B9) (x10 : B10) (x11 : B11) (x12 : B12) (x13 : B13) (x14 : B14) (x15 : B15) (x16 : B16) (x17 : B17) (x18 : B18) (x19 : B19) (x20 : B20) (x21 : B21), I x1 x2 x3 x4 x5 x6 x7 x8 x9 x10 x11 x12 x13 x14 x15 x16 x17 x18 x19 x20 x21 → μ x1 x2 x3 x4 x5 x6 x7 x8 x9 x10 x11 x12 x13 x14 x15 x16 x17 x18 x19 x20 x21 < n → sL21 F n x1 x2 x3 x4 x5 x6 x7 x8 x9 x10 x11 x12 x13 x14 x15 x16 x17 x18 x19 x20 x21 := by
    intro n
    induction n with
    | zero => intro x1 x2 x3 x4 x5 x6 x7 x8 x9 x10 x11 x12 x13 x14 x15 x16 x17 x18 x19 x20 x21 _ h; exact absurd h (Nat.not_lt_zero _)
    | succ n ih => intro x1 x2 x3 x4 x5 x6 x7 x8 x9 x10 x11 x12 x13 x14 x15 x16 x17 x18 x19 x20 x21 hI hn; exact step (sL21 F n) x1 x2 x3 x4 x5 x6 x7 x8 x9 x10 x11 x12 x13 x14 x15 x16 x17 x18 x19 x20 x21 hI (fun z1 z2 z3 z4 z5 z6 z7 z8 z9 z10 z11 z12 z13 z14 z15 z16 z17 z18 z19 z20 z21 hI2 h2 => ih z1 z2 z3 z4 z5 z6 z7 z8 z9 z10 z11 z12 z13 z14 z15 z16 z17 z18 z19 z20 z21 hI2 (by omega))
  exact ⟨_, key _ x1 x2 x3 x4 x5 x6 x7 x8 x9 x10 x11 x12 x13 x14 x15 x16 x17 x18 x19 x20 x21 h (Nat.lt_succ_self _)⟩
def sL22 {B1 B2 B3 B4 B5 B6 B7 B8 B9 B10 B11 B12 B13 B14 B15 B16 B17 B18 B19 B20 B21 B22 : Type} (F : (B1 → B2 → B3 → B4 → B5 → B6 → B7 → B8 → B9 → B10 → B11 → B12 → B13 → B14 → B15 → B16 → B17 → B18 → B19 → B20 → B21 → B22 → Prop) → B1 → B2 → B3 → B4 → B5 → B6 → B7 → B8 → B9 → B10 → B11 → B12 → B13 → B14 → B15 → B16 → B17 → B18 → B19 → B20 → B21 → B22 → Prop) : Nat → B1 → B2 → B3 → B4 → B5 → B6 → B7 → B8 → B9 → B10 → B11 → B12 → B13 → B14 → B15 → B16 → B17 → B18 → B19 → B20 → B21 → B22 → Prop
  | 0 => fun _ _ _ _ _ _ _ _ _ _ _ _ _ _ _ _ _ _ _ _ _ _ => False
  | n + 1 => F (sL22 F n)
theorem sL22_ind {B1 B2 B3 B4 B5 B6 B7 B8 B9 B10 B11 B12 B13 B14 B15 B16 B17 B18 B19 B20 B21 B22 : Type} {F : (B1 → B2 → B3 → B4 → B5 → B6 → B7 → B8 → B9 → B10 → B11 → B12 → B13 → B14 → B15 → B16 → B17 → B18 → B19 → B20 → B21 → B22 → Prop) → B1 → B2 → B3 → B4 → B5 → B6 → B7 → B8 → B9 → B10 → B11 → B12 → B13 → B14 → B15 → B16 → B17 → B18 → B19 → B20 → B21 → B22 → Prop} (P : B1 → B2 → B3 → B4 → B5 → B6 → B7 → B8 → B9 → B10 → B11 → B12 → B13 → B14 → B15 → B16 → B17 → B18 → B19 → B20 → B21 → B22 → Prop) (step : ∀ k : B1 → B2 → B3 → B4 → B5 → B6 → B7 → B8 → B9 → B10 → B11 → B12 → B13 → B14 → B15 → B16 → B17 → B18 → B19 → B20 → B21 → B22 → Prop, (∀ (x1 : B1) (x2 : B2) (x3 : B3) (x4 : B4) (x5 : B5) (x6 : B6) (x7 : B7) (x8 : B8) (x9 : B9) (x10 : B10) (x11 : B11) (x12 : B12) (x13 : B13) (x14 : B14) (x15 : B15) (x16 : B16) (x17 : B17) (x18 : B18) (x19 : B19) (x20 : B20) (x21 : B21) (x22 : B22), k x1 x2 x3 x4 x5 x6 x7 x8 x9 x10 x11 x12 x13 x14 x15 x16 x17 x18 x19 x20 x21 x22 → P x1 x2 x3 x4 x5 x6 x7 x8 x9 x10 x11 x12 x13 x14 x15 x16 x17 x18 x19 x20 x21 x22) → ∀ (x1 : B1) (x2 : B2) (x3 : B3) (x4 : B4) (x5 : B5) (x6 : B6) (x7 : B7) (x8 : B8) (x9 : B9) (x10 : B10) (x11 : B11) (x12 : B12) (x13 : B13) (x14 : B14) (x15 : B15) (x16 : B16) (x17 : B17) (x18 : B18) (x19 : B19) (x20 : B20) (x21 : B21) (x22 : B22), F k x1 x2 x3 x4 x5 x6 x7 x8 x9 x10 x11 x12 x13 x14 x15 x16 x17 x18 x19 x20 x21 x22 → P x1 x2 x3 x4 x5 x6 x7 x8 x9 x10 x11 x12 x13 x14 x15 x16 x17 x18 x19 x20 x21 x22) : ∀ (n : Nat) (x1 : B1) (x2 : B2) (x3 : B3) (x4 : B4) (x5 : B5) (x6 : B6) (x7 : B7) (x8 : B8) (x9 : B9) (x10 : B10) (x11 : B11) (x12 : B12) (x13 : B13) (x14 : B14) (x15 : B15) (x16 : B16) (x17 : B17) (x18 : B18) (x19 : B19) (x20 : B20) (x21 : B21) (x22 : B22), sL22 F n x1 x2 x3 x4 x5 x6 x7 x8 x9 x10 x11 x12 x13 x14 x15 x16 x17 x18 x19 x20 x21 x22 → P x1 x2 x3 x4 x5 x6 x7 x8 x9 x10 x11 x12 x13 x14 x15 x16 x17 x18 x19 x20 x21 x22
  | 0, _, _, _, _, _, _, _, _, _, _, _, _, _, _, _, _, _, _, _, _, _, _ => fun h => h.elim
  | n + 1, x1, x2, x3, x4, x5, x6, x7, x8, x9, x10, x11, x12, x13, x14, x15, x16, x17, x18, x19, x20, x21, x22 => fun h => step (sL22 F n) (sL22_ind P step n) x1 x2 x3 x4 x5 x6 x7 x8 x9 x10 x11 x12 x13 x14 x15 x16 x17 x18 x19 x20 x21 x22 h
theorem sL22_of {B1 B2 B3 B4 B5 B6 B7 B8 B9 B10 B11 B12 B13 B14 B15 B16 B17 B18 B19 B20 B21 B22 : Type} {F : (B1 → B2 → B3 → B4 → B5 → B6 → B7 → B8 → B9 → B10 → B11 → B12 → B13 → B14 → B15 → B16 → B17 → B18 → B19 → B20 → B21 → B22 → Prop) → B1 → B2 → B3 → B4 → B5 → B6 → B7 → B8 → B9 → B10 → B11 → B12 → B13 → B14 → B15 → B16 → B17 → B18 → B19 → B20 → B21 → B22 → Prop} (I : B1 → B2 → B3 → B4 → B5 → B6 → B7 → B8 → B9 → B10 → B11 → B12 → B13 → B14 → B15 → B16 → B17 → B18 → B19 → B20 → B21 → B22 → Prop) (μ : B1 → B2 → B3 → B4 → B5 → B6 → B7 → B8 → B9 → B10 → B11 → B12 → B13 → B14 → B15 → B16 → B17 → B18 → B19 → B20 → B21 → B22 → Nat) (step : ∀ (k : B1 → B2 → B3 → B4 → B5 → B6 → B7 → B8 → B9 → B10 → B11 → B12 → B13 → B14 → B15 → B16 → B17 → B18 → B19 → B20 → B21 → B22 → Prop) (x1 : B1) (x2 : B2) (x3 : B3) (x4 : B4) (x5 : B5) (x6 : B6) (x7 : B7) (x8 : B8) (x9 : B9) (x10 : B10) (x11 : B11) (x12 : B12) (x13 : B13) (x14 : B14) (x15 : B15) (x16 : B16) (x17 : B17) (x18 : B18) (x19 : B19) (x20 : B20) (x21 : B21) (x22 : B22), I x1 x2 x3 x4 x5 x6 x7 x8 x9 x10 x11 x12 x13 x14 x15 x16 x17 x18 x19 x20 x21 x22 → (∀ (z1 : B1) (z2 : B2) (z3 : B3) (z4 : B4) (z5 : B5) (z6 : B6) (z7 : B7) (z8 : B8) (z9 : B9) (z10 : B10) (z11 : B11) (z12 : B12) (z13 : B13) (z14 : B14) (z15 : B15) (z16 : B16) (z17 : B17) (z18 : B18) (z19 : B19) (z20 : B20) (z21 : B21) (z22 : B22), I z1 z2 z3 z4 z5 z6 z7 z8 z9 z10 z11 z12 z13 z14 z15 z16 z17 z18 z19 z20 z21 z22 → μ z1 z2 z3 z4 z5 z6 z7 z8 z9 z10 z11 z12 z13 z14 z15 z16 z17 z18 z19 z20 z21 z22 < μ x1 x2 x3 x4 x5 x6 x7 x8 x9 x10 x11 x12 x13 x14 x15 x16 x17 x18 x19 x20 x21 x22 → k z1 z2 z3 z4 z5 z6 z7 z8 z9 z10 z11 z12 z13 z14 z15 z16 z17 z18 z19 z20 z21 z22) → F k x1 x2 x3 x4 x5 x6 x7 x8 x9 x10 x11 x12 x13 x14 x15 x16 x17 x18 x19 x20 x21 x22) (x1 : B1) (x2 : B2) (x3 : B3) (x4 : B4) (x5 : B5) (x6 : B6) (x7 : B7) (x8 : B8) (x9 : B9) (x10 : B10) (x11 : B11) (x12 : B12) (x13 : B13) (x14 : B14) (x15 : B15) (x16 : B16) (x17 : B17) (x18 : B18) (x19 : B19) (x20 : B20) (x21 : B21) (x22 : B22) (h : I x1 x2 x3 x4 x5 x6 x7 x8 x9 x10 x11 x12 x13 x14 x15 x16 x17 x18 x19 x20 x21 x22) : ∃ n, sL22 F n x1 x2 x3 x4 x5 x6 x7 x8 x9 x10 x11 x12 x13 x14 x15 x16 x17 x18 x19 x20 x21 x22 := by
  have key : ∀ (n : Nat) (x1 : B1) (x2 : B2) (x3 : B3) (x4 : B4) (x5 : B5) (x6 : B6) (x7 : B7) (x8 : B8) (x9 : B9) (x10 : B10) (x11 : B11) (x12 : B12) (x13 : B13) (x14 : B14) (x15 : B15) (x16 : B16) (x17 : B17) (x18 : B18) (x19 : B19) (x20 : B20) (x21 : B21) (x22 : B22), I x1 x2 x3 x4 x5 x6 x7 x8 x9 x10 x11 x12 x13 x14 x15 x16 x17 x18 x19 x20 x21 x22 → μ x1 x2 x3 x4 x5 x6 x7 x8 x9 x10 x11 x12 x13 x14 x15 x16 x17 x18 x19 x20 x21 x22 < n → sL22 F n x1 x2 x3 x4 x5 x6 x7 x8 x9 x10 x11 x12 x13 x14 x15 x16 x17 x18 x19 x20 x21 x22 := by
    intro n
    induction n with
    | zero => intro x1 x2 x3 x4 x5 x6 x7 x8 x9 x10 x11 x12 x13 x14 x15 x16 x17 x18 x19 x20 x21 x22 _ h; exact absurd h (Nat.not_lt_zero _)
    | succ n ih => intro x1 x2 x3 x4 x5 x6 x7 x8 x9 x10 x11 x12 x13 x14 x15 x16 x17 x18 x19 x20 x21 x22 hI hn; exact step (sL22 F n) x1 x2 x3 x4 x5 x6 x7 x8 x9 x10 x11 x12 x13 x14 x15 x16 x17 x18 x19 x20 x21 x22 hI (fun z1 z2 z3 z4 z5 z6 z7 z8 z9 z10 z11 z12 z13 z14 z15 z16 z17 z18 z19 z20 z21 z22 hI2 h2 => ih z1 z2 z3 z4 z5 z6 z7 z8 z9 z10 z11 z12 z13 z14 z15 z16 z17 z18 z19 z20 z21 z22 hI2 (by omega))
  exact ⟨_, key _ x1 x2 x3 x4 x5 x6 x7 x8 x9 x10 x11 x12 x13 x14 x15 x16 x17 x18 x19 x20 x21 x22 h (Nat.lt_succ_self _)⟩
def sL23 {B1 B2 B3 B4 B5 B6 B7 B8 B9 B10 B11 B12 B13 B14 B15 B16 B17 B18 B19 B20 B21 B22 B23 : Type} (F : (B1 → B2 → B3 → B4 → B5 → B6 → B7 → B8 → B9 → B10 → B11 → B12 → B13 → B14 → B15 → B16 → B17 → B18 → B19 → B20 → B21 → B22 → B23 → Prop) → B1 → B2 → B3 → B4 → B5 → B6 → B7 → B8 → B9 → B10 → B11 → B12 → B13 → B14 → B15 → B16 → B17 → B18 → B19 → B20 → B21 → B22 → B23 → Prop) : Nat → B1 → B2 → B3 → B4 → B5 → B6 → B7 → B8 → B9 → B10 → B11 → B12 → B13 → B14 → B15 → B16 → B17 → B18 → B19 → B20 → B21 → B22 → B23 → Prop
  | 0 => fun _ _ _ _ _ _ _ _ _ _ _ _ _ _ _ _ _ _ _ _ _ _ _ => False
  | n + 1 => F (sL23 F n)
theorem sL23_ind {B1 B2 B3 B4 B5 B6 B7 B8 B9 B10 B11 B12 B13 B14 B15 B16 B17 B18 B19 B20 B21 B22 B23 : Type} {F : (B1 → B2 → B3 → B4 → B5 → B6 → B7 → B8 → B9 → B10 → B11 → B12 → B13 → B14 → B15 → B16 → B17 → B18 → B19 → B20 → B21 → B22 → B23 → Prop) → B1 → B2 → B3 → B4 → B5 → B6 → B7 → B8 → B9 → B10 → B11 → B12 → B13 → B14 → B15 → B16 → B17 → B18 → B19 → B20 → B21 → B22 → B23 → Prop} (P : B1 → B2 → B3 → B4 → B5 → B6 → B7 → B8 → B9 → B10 → B11 → B12 → B13 → B14 → B15 → B16 → B17 → B18 → B19 → B20 → B21 → B22 → B23 → Prop) (step : ∀ k : B1 → B2 → B3 → B4 → B5 → B6 → B7 → B8 → B9 → B10 → B11 → B12 → B13 → B14 → B15 → B16 → B17 → B18 → B19 → B20 → B21 → B22 → B23 → Prop, (∀ (x1 : B1) (x2 : B2) (x3 : B3) (x4 : B4) (x5 : B5) (x6 : B6) (x7 : B7) (x8 : B8) (x9 : B9) (x10 : B10) (x11 : B11) (x12 : B12) (x13 : B13) (x14 : B14) (x15 : B15) (x16 : B16) (x17 : B17) (x18 : B18) (x19 : B19) (x20 : B20) (x21 : B21) (x22 : B22) (x23 : B23), k x1 x2 x3 x4 x5 x6 x7 x8 x9 x10 x11 x12 x13 x14 x15 x16 x17 x18 x19 x20 x21 x22 x23 → P x1 x2 x3 x4 x5 x6 x7 x8 x9 x10 x11 x12 x13 x14 x15 x16 x17 x18 x19 x20 x21 x22 x23) → ∀ (x1 : B1) (x2 : B2) (x3 : B3) (x4 : B4) (x5 : B5) (x6 : B6) (x7 : B7) (x8 : B8) (x9 : B9) (x10 : B10) (x11 : B11) (x12 : B12) (x13 : B13) (x14 : B14) (x15 : B15) (x16 : B16) (x17 : B17) (x18 : B18) (x19 : B19) (x20 : B20) (x21 : B21) (x22 : B22) (x23 : B23), F k x1 x2 x3 x4 x5 x6 x7 x8 x9 x10 x11 x12 x13 x14 x15 x16 x17 x18 x19 x20 x21 x22 x23 → P x1 x2 x3 x4 x5 x6 x7 x8 x9 x10 x11 x12 x13 x14 x15 x16 x17 x18 x19 x20 x21 x22 x23) : ∀ (n : Nat) (x1 : B1) (x2 : B2) (x3 : B3) (x4 : B4) (x5 : B5) (x6 : B6) (x7 : B7) (x8 : B8) (x9 : B9) (x10 : B10) (x11 : B11) (x12 : B12) (x13 : B13) (x14 : B14) (x15 : B15) (x16 : B16) (x17 : B17) (x18 : B18) (x19 : B19) (x20 : B20) (x21 : B21) (x22 : B22) (x23 : B23), sL23 F n x1 x2 x3 x4 x5 x6 x7 x8 x9 x10 x11 x12 x13 x14 x15 x16 x17 x18 x19 x20 x21 x22 x23 → P x1 x2 x3 x4 x5 x6 x7 x8 x9 x10 x11 x12 x13 x14 x15 x16 x17 x18 x19 x20 x21 x22 x23
  | 0, _, _, _, _, _, _, _, _, _, _, _, _, _, _, _, _, _, _, _, _, _, _, _ => fun h => h.elim
  | n + 1, x1, x2, x3, x4, x5, x6, x7, x8, x9, x10, x11, x12, x13, x14, x15, x16, x17, x18, x19, x20, x21, x22, x23 => fun h => step (sL23 F n) (sL23_ind P step n) x1 x2 x3 x4 x5 x6 x7 x8 x9 x10 x11 x12 x13 x14 x15 x16 x17 x18 x19 x20 x21 x22 x23 h
theorem sL23_of {B1 B2 B3 B4 B5 B6 B7 B8 B9 B10 B11 B12 B13 B14 B15 B16 B17 B18 B19 B20 B21 B22 B23 : Type} {F : (B1 → B2 → B3 → B4 → B5 → B6 → B7 → B8 → B9 → B10 → B11 → B12 → B13 → B14 → B15 → B16 → B17 → B18 → B19 → B20 → B21 → B22 → B23 → Prop) → B1 → B2 → B3 → B4 → B5 → B6 → B7 → B8 → B9 → B10 → B11 → B12 → B13 → B14 → B15 → B16 → B17 → B18 → B19 → B20 → B21 → B22 → B23 → Prop} (I : B1 → B2 → B3 → B4 → B5 → B6 → B7 → B8 → B9 → B10 → B11 → B12 → B13 → B14 → B15 → B16 → B17 → B18 → B19 → B20 → B21 → B22 → B23 → Prop) (μ : B1 → B2 → B3 → B4 → B5 → B6 → B7 → B8 → B9 → B10 → B11 → B12 → B13 → B14 → B15 → B16 → B17 → B18 → B19 → B20 → B21 → B22 → B23 → Nat) (step : ∀ (k : B1 → B2 → B3 → B4 → B5 → B6 → B7 → B8 → B9 → B10 → B11 → B12 → B13 → B14 → B15 → B16 → B17 → B18 → B19 → B20 → B21 → B22 → B23 → Prop) (x1 : B1) (x2 : B2) (x3 : B3) (x4 : B4) (x5 : B5) (x6 : B6) (x7 : B7) (x8 : B8) (x9 : B9) (x10 : B10) (x11 : B11) (x12 : B12) (x13 : B13) (x14 : B14) (x15 : B15) (x16 : B16) (x17 : B17) (x18 : B18) (x19 : B19) (x20 : B20) (x21 : B21) (x22 : B22) (x23 : B23), I x1 x2 x3 x4 x5 x6 x7 x8 x9 x10 x11 x12 x13 x14 x15 x16 x17 x18 x19 x20 x21 x22 x23 → (∀ (z1 : B1) (z2 : B2) (z3 : B3) (z4 : B4) (z5 : B5) (z6 : B6) (z7 : B7) (z8 : B8) (z9 : B9) (z10 : B10) (z11 : B11) (z12 : B12) (z13 : B13) (z14 : B14) (z15 : B15) (z16 : B16) (z17 : B17) (z18 : B18) (z19 : B19) (z20 : B20) (z21 : B21) (z22 : B22) (z23 : B23), I z1 z2 z3 z4 z5 z6 z7 z8 z9 z10 z11 z12 z13 z14 z15 z16 z17 z18 z19 z20 z21 z22 z23 → μ z1 z2 z3 z4 z5 z6 z7 z8 z9 z10 z11 z12 z13 z14 z15 z16 z17 z18 z19 z20 z21 z22 z23 < μ x1 x2 x3 x4 x5 x6 x7 x8 x9 x10 x11 x12 x13 x14 x15 x16 x17 x18 x19 x20 x21 x22 x23 → k z1 z2 z3 z4 z5 z6 z7 z8 z9 z10 z11 z12 z13 z14 z15 z16 z17 z18 z19 z20 z21 z22 z23) → F k x1 x2 x3 x4 x5 x6 x7 x8 x9 x10 x11 x12 x13 x14 x15 x16 x17 x18 x19 x20 x21 x22 x23) (x1 : B1) (x2 : B2) (x3 : B3) (x4 : B4) (x5 : B5) (x6 : B6) (x7 : B7) (x8 : B8) (x9 : B9) (x10 : B10) (x11 : B11) (x12 : B12) (x13 : B13) (x14 : B14) (x15 : B15) (x16 : B16) (x17 : B17) (x18 : B18) (x19 : B19) (x20 : B20) (x21 : B21) (x22 : B22) (x23 : B23) (h : I x1 x2 x3 x4 x5 x6 x7 x8 x9 x10 x11 x12 x13 x14 x15 x16 x17 x18 x19 x20 x21 x22 x23) : ∃ n, sL23 F n x1 x2 x3 x4 x5 x6 x7 x8 x9 x10 x11 x12 x13 x14 x15 x16 x17 x18 x19 x20 x21 x22 x23 := by
  have key : ∀ (n : Nat) (x1 : B1) (x2 : B2) (x3 : B3) (x4 : B4) (x5 : B5) (x6 : B6) (x7 : B7) (x8 : B8) (x9 : B9) (x10 : B10) (x11 : B11) (x12 : B12) (x13 : B13) (x14 : B14) (x15 : B15) (x16 : B16) (x17 : B17) (x18 : B18) (x19 : B19) (x20 : B20) (x21 : B21) (x22 : B22) (x23 : B23), I x1 x2 x3 x4 x5 x6 x7 x8 x9 x10 x11 x12 x13 x14 x15 x16 x17 x18 x19 x20 x21 x22 x23 → μ x1 x2 x3 x4 x5 x6 x7 x8 x9 x10 x11 x12 x13 x14 x15 x16 x17 x18 x19 x20 x21 x22 x23 < n → sL23 F n x1 x2 x3 x4 x5 x6 x7 x8 x9 x10 x11 x12 x13 x14 x15 x16 x17 x18 x19 x20 x21 x22 x23 := by
    intro n
    induction n with
    | zero => intro x1 x2 x3 x4 x5 x6 x7 x8 x9 x10 x11 x12 x13 x14 x15 x16 x17 x18 x19 x20 x21 x22 x23 _ h; exact absurd h (Nat.not_lt_zero _)
    | succ n ih => intro x1 x2 x3 x4 x5 x6 x7 x8 x9 x10 x11 x12 x13 x14 x15 x16 x17 x18 x19 x20 x21 x22 x23 hI hn; exact step (sL23 F n) x1 x2 x3 x4 x5 x6 x7 x8 x9 x10 x11 x12 x13 x14 x15 x16 x17 x18 x19 x20 x21 x22 x23 hI (fun z1 z2 z3 z4 z5 z6 z7 z8 z9 z10 z11 z12 z13 z14 z15 z16 z17 z18 z19 z20 z21 z22 z23 hI2 h2 => ih z1 z2 z3 z4 z5 z6 z7 z8 z9 z10 z11 z12 z13 z14 z15 z16 z17 z18 z19 z20 z21 z22 z23 hI2 (by omega))
  exact ⟨_, key _ x1 x2 x3 x4 x5 x6 x7 x8 x9 x10 x11 x12 x13 x14 x15 x16 x17 x18 x19 x20 x21 x22 x23 h (Nat.lt_succ_self _)⟩
def sL24 {B1 B2 B3 B4 B5 B6 B7 B8 B9 B10 B11 B12 B13 B14 B15 B16 B17 B18 B19 B20 B21 B22 B23 B24 : Type} (F : (B1 → B2 → B3 → B4 → B5 → B6 → B7 → B8 → B9 → B10 → B11 → B12 → B13 → B14 → B15 → B16 → B17 → B18 → B19 → B20 → B21 → B22 → B23 → B24 → Prop) → B1 → B2 → B3 → B4 → B5 → B6 → B7 → B8 → B9 → B10 → B11 → B12 → B13 → B14 → B15 → B16 → B17 → B18 → B19 → B20 → B21 → B22 → B23 → B24 → Prop) : Nat → B1 → B2 → B3 → B4 → B5 → B6 → B7 → B8 → B9 → B10 → B11 → B12 → B13 → B14 → B15 → B16 → B17 → B18 → B19 → B20 → B21 → B22 → B23 → B24 → Prop
  | 0 => fun _ _ _ _ _ _ _ _ _ _ _ _ _ _ _ _ _ _ _ _ _ _ _ _ => False
  | n + 1 => F (sL24 F n)
theorem sL24_ind {B1 B2 B3 B4 B5 B6 B7 B8 B9 B10 B11 B12 B13 B14 B15 B16 B17 B18 B19 B20 B21 B22 B23 B24 : Type} {F : (B1 → B2 → B3 → B4 → B5 → B6 → B7 → B8 → B9 → B10 → B11 → B12 → B13 → B14 → B15 → B16 → B17 → B18 → B19 → B20 → B21 → B22 → B23 → B24 → Prop) → B1 → B2 → B3 → B4 → B5 → B6 → B7 → B8 → B9 → B10 → B11 → B12 → B13 → B14 → B15 → B16 → B17 → B18 → B19 → B20 → B21 → B22 → B23 → B24 → Prop} (P : B1 → B2 → B3 → B4 → B5 → B6 → B7 → B8 → B9 → B10 → B11 → B12 → B13 → B14 → B15 → B16 → B17 → B18 → B19 → B20 → B21 → B22 → B23 → B24 → Prop) (step : ∀ k : B1 → B2 → B3 → B4 → B5 → B6 → B7 → B8 → B9 → B10 → B11 → B12 → B13 → B14 → B15 → B16 → B17 → B18 → B19 → B20 → B21 → B22 → B23 → B24 → Prop, (∀ (x1 : B1) (x2 : B2) (x3 : B3) (x4 : B4) (x5 : B5) (x6 : B6) (x7 : B7) (x8 : B8) (x9 : B9) (x10 : B10) (x11 : B11) (x12 : B12) (x13 : B13) (x14 : B14) (x15 : B15) (x16 : B16) (x17 : B17) (x18 : B18) (x19 : B19) (x20 : B20) (x21 : B21) (x22 : B22) (x23 : B23) (x24 : B24), k x1 x2 x3 x4 x5 x6 x7 x8 x9 x10 x11 x12 x13 x14 x15 x16 x17 x18 x19 x20 x21 x22 x23 x24 → P x1 x2 x3 x4 x5 x6 x7 x8 x9 x10 x11 x12 x13 x14 x15 x16 x17 x18 x19 x20 x21 x22 x23 x24) → ∀ (x1 : B1) (x2 : B2) (x3 : B3) (x4 : B4) (x5 : B5) (x6 : B6) (x7 : B7) (x8 : B8) (x9 : B9) (x10 : B10) (x11 : B11) (x12 : B12) (x13 : B13) (x14 : B14) (x15 : B15) (x16 : B16) (x17 : B17) (x18 : B18) (x19 : B19) (x20 : B20) (x21 : B21) (x22 : B22) (x23 : B23) (x24 : B24), F k x1 x2 x3 x4 x5 x6 x7 x8 x9 x10 x11 x12 x13 x14 x15 x16 x17 x18 x19 x20 x21 x22 x23 x24 → P x1 x2 x3 x4 x5 x6 x7 x8 x9 x10 x11 x12 x13 x14 x15 x16 x17 x18 x19 x20 x21 x22 x23 x24) : ∀ (n : Nat) (x1 : B1) (x2 : B2) (x3 : B3) (x4 : B4) (x5 : B5) (x6 : B6) (x7 : B7) (x8 : B8) (x9 : B9) (x10 : B10) (x11 : B11) (x12 : B12) (x13 : B13) (x14 : B14) (x15 : B15) (x16 : B16) (x17 : B17) (x18 : B18) (x19 : B19) (x20 : B20) (x21 : B21) (x22 : B22) (x23 : B23) (x24 : B24), sL24 F n x1 x2 x3 x4 x5 x6 x7 x8 x9 x10 x11 x12 x13 x14 x15 x16 x17 x18 x19 x20 x21 x22 x23 x24 → P x1 x2 x3 x4 x5 x6 x7 x8 x9 x10 x11 x12 x13 x14 x15 x16 x17 x18 x19 x20 x21 x22 x23 x24
  | 0, _, _, _, _, _, _, _, _, _, _, _, _, _, _, _, _, _, _, _, _, _, _, _, _ => fun h => h.elim
  | n + 1, x1, x2, x3, x4, x5, x6, x7, x8, x9, x10, x11, x12, x13, x14, x15, x16, x17, x18, x19, x20, x21, x22, x23, x24 => fun h => step (sL24 F n) (sL24_ind P step n) x1 x2 x3 x4 x5 x6 x7 x8 x9 x10 x11 x12 x13 x14 x15 x16 x17 x18 x19 x20 x21 x22 x23 x24 h
theorem sL24_of {B1 B2 B3 B4 B5 B6 B7 B8 B9 B10 B11 B12 B13 B14 B15 B16 B17 B18 B19 B20 B21 B22 B23 B24 : Type} {F : (B1 → B2 → B3 → B4 → B5 → B6 → B7 → B8 → B9 → B10 → B11 → B12 → B13 → B14 → B15 → B16 → B17 → B18 → B19 → B20 → B21 → B22 → B23 → B24 → Prop) → B1 → B2 → B3 → B4 → B5 → B6 → B7 → B8 → B9 → B10 → B11 → B12 → B13 → B14 → B15 → B16 → B17 → B18 → B19 → B20 → B21 → B22 → B23 → B24 → Prop} (I : B1 → B2 → B3 → B4 → B5 → B6 → B7 → B8 → B9 → B10 → B11 → B12 → B13 → B14 → B15 → B16 → B17 → B18 → B19 → B20 → B21 → B22 → B23 → B24 → Prop) (μ : B1 → B2 → B3 → B4 → B5 → B6 → B7 → B8 → B9 → B10 → B11 → B12 → B13 → B14 → B15 → B16 → B17 → B18 → B19 → B20 → B21 → B22 → B23 → B24 → Nat) (step : ∀ (k : B1 → B2 → B3 → B4 → B5 → B6 → B7 → B8 → B9 → B10 → B11 → B12 → B13 → B14 → B15 → B16 → B17 → B18 → B19 → B20 → B21 → B22 → B23 → B24 → Prop) (x1 : B1) (x2 : B2) (x3 : B3) (x4 : B4) (x5 : B5) (x6 : B6) (x7 : B7) (x8 : B8) (x9 : B9) (x10 : B10) (x11 : B11) (x12 : B12) (x13 : B13) (x14 : B14) (x15 : B15) (x16 : B16) (x17 : B17) (x18 : B18) (x19 : B19) (x20 : B20) (x21 : B21) (x22 : B22) (x23 : B23) (x24 : B24), I x1 x2 x3 x4 x5 x6 x7 x8 x9 x10 x11 x12 x13 x14 x15 x16 x17 x18 x19 x20 x21 x22 x23 x24 → (∀ (z1 : B1) (z2 : B2) (z3 : B3) (z4 : B4) (z5 : B5) (z6 : B6) (z7 : B7) (z8 : B8) (z9 : B9) (z10 : B10) (z11 : B11) (z12 : B12) (z13 : B13) (z14 : B14) (z15 : B15) (z16 : B16) (z17 : B17) (z18 : B18) (z19 : B19) (z20 : B20) (z21 : B21) (z22 : B22) (z23 : B23) (z24 : B24), I z1 z2 z3 z4 z5 z6 z7 z8 z9 z10 z11 z12 z13 z14 z15 z16 z17 z18 z19 z20 z21 z22 z23 z24 → μ z1 z2 z3 z4 z5 z6 z7 z8 z9 z10 z11 z12 z13 z14 z15 z16 z17 z18 z19 z20 z21 z22 z23 z24 < μ x1 x2 x3 x4 x5 x6 x7 x8 x9 x10 x11 x12 x13 x14 x15 x16 x17 x18 x19 x20 x21 x22 x23 x24 → k z1 z2 z3 z4 z5 z6 z7 z8 z9 z10 z11 z12 z13 z14 z15 z16 z17 z18 z19 z20 z21 z22 z23 z24) → F k x1 x2 x3 x4 x5 x6 x7 x8 x9 x10 x11 x12 x13 x14 x15 x16 x17 x18 x19 x20 x21 x22 x23 x24) (x1 : B1) (x2 : B2) (x3 : B3) (x4 : B4) (x5 : B5) (x6 : B6) (x7 : B7) (x8 : B8) (x9 : B9) (x10 : B10) (x11 : B11) (x12 : B12) (x13 : B13) (x14 : B14) (x15 : B15) (x16 : B16) (x17 : B17) (x18 : B18) (x19 : B19) (x20 : B20) (x21 : B21) (x22 : B22) (x23 : B23) (x24 : B24) (h : I x1 x2 x3 x4 x5 x6 x7 x8 x9 x10 x11 x12 x13 x14 x15 x16 x17 x18 x19 x20 x21 x22 x23 x24) : ∃ n, sL24 F n x1 x2 x3 x4 x5 x6 x7 x8 x9 x10 x11 x12 x13 x14 x15 x16 x17 x18 x19 x20 x21 x22 x23 x24 := by
  have key : ∀ (n : Nat) (x1 : B1) (x2 : B2) (x3 : B3) (x4 : B4) (x5 : B5) (x6 : B6) (x7 : B7) (x8 : B8) (x9 : B9) (x10 : B10) (x11 : B11) (x12 : B12) (x13 : B13) (x14 : B14) (x15 : B15) (x16 : B16) (x17 : B17) (x18 : B18) (x19 : B19) (x20 : B20) (x21 : B21) (x22 : B22) (x23 : B23) (x24 : B24), I x1 x2 x3 x4 x5 x6 x7 x8 x9 x10 x11 x12 x13 x14 x15 x16 x17 x18 x19 x20 x21 x22 x23 x24 → μ x1 x2 x3 x4 x5 x6 x7 x8 x9 x10 x11 x12 x13 x14 x15 x16 x17 x18 x19 x20 x21 x22 x23 x24 < n → sL24 F n x1 x2 x3 x4 x5 x6 x7 x8 x9 x10 x11 x12 x13 x14 x15 x16 x17 x18 x19 x20 x21 x22 x23 x24 := by
    intro n
    induction n with
    | zero => intro x1 x2 x3 x4 x5 x6 x7 x8 x9 x10 x11 x12 x13 x14 x15 x16 x17 x18 x19 x20 x21 x22 x23 x24 _ h; exact absurd h (Nat.not_lt_zero _)
    | succ n ih => intro x1 x2 x3 x4 x5 x6 x7 x8 x9 x10 x11 x12 x13 x14 x15 x16 x17 x18 x19 x20 x21 x22 x23 x24 hI hn; exact step (sL24 F n) x1 x2 x3 x4 x5 x6 x7 x8 x9 x10 x11 x12 x13 x14 x15 x16 x17 x18 x19 x20 x21 x22 x23 x24 hI (fun z1 z2 z3 z4 z5 z6 z7 z8 z9 z10 z11 z12 z13 z14 z15 z16 z17 z18 z19 z20 z21 z22 z23 z24 hI2 h2 => ih z1 z2 z3 z4 z5 z6 z7 z8 z9 z10 z11 z12 z13 z14 z15 z16 z17 z18 z19 z20 z21 z22 z23 z24 hI2 (by omega))
  exact ⟨_, key _ x1 x2 x3 x4 x5 x6 x7 x8 x9 x10 x11 x12 x13 x14 x15 x16 x17 x18 x19 x20 x21 x22 x23 x24 h (Nat.lt_succ_self _)⟩
def sL25 {B1 B2 B3 B4 B5 B6 B7 B8 B9 B10 B11 B12 B13 B14 B15 B16 B17 B18 B19 B20 B21 B22 B23 B24 B25 : Type} (F : (B1 → B2 → B3 → B4 → B5 → B6 → B7 → B8 → B9 → B10 → B11 → B12 → B13 → B14 → B15 → B16 → B17 → B18 → B19 → B20 → B21 → B22 → B23 → B24 → B25 → Prop) → B1 → B2 → B3 → B4 → B5 → B6 → B7 → B8 → B9 → B10 → B11 → B12 → B13 → B14 → B15 → B16 → B17 → B18 → B19 → B20 → B21 → B22 → B23 → B24 → B25 → Prop) : Nat → B1 → B2 → B3 → B4 → B5 → B6 → B7 → B8 → B9 → B10 → B11 → B12 → B13 → B14 → B15 → B16 → B17 → B18 → B19 → B20 → B21 → B22 → B23 → B24 → B25 → Prop
  | 0 => fun _ _ _ _ _ _ _ _ _ _ _ _ _ _ _ _ _ _ _ _ _ _ _ _ _ => False
  | n + 1 => F (sL25 F n)
theorem sL25_ind {B1 B2 B3 B4 B5 B6 B7 B8 B9 B10 B11 B12 B13 B14 B15 B16 B17 B18 B19 B20 B21 B22 B23 B24 B25 : Type} {F : (B1 → B2 → B3 → B4 → B5 → B6 → B7 → B8 → B9 → B10 → B11 → B12 → B13 → B14 → B15 → B16 → B17 → B18 → B19 → B20 → B21 → B22 → B23 → B24 → B25 → Prop) → B1 → B2 → B3 → B4 → B5 → B6 → B7 → B8 → B9 → B10 → B11 → B12 → B13 → B14 → B15 → B16 → B17 → B18 → B19 → B20 → B21 → B22 → B23 → B24 → B25 → Prop} (P : B1 → B2 → B3 → B4 → B5 → B6 → B7 → B8 → B9 → B10 → B11 → B12 → B13 → B14 → B15 → B16 → B17 → B18 → B19 → B20 → B21 → B22 → B23 → B24 → B25 → Prop) (step : ∀ k : B1 → B2 → B3 → B4 → B5 → B6 → B7 → B8 → B9 → B10 → B11 → B12 → B13 → B14 → B15 → B16 → B17 → B18 → B19 → B20 → B21 → B22 → B23 → B24 → B25 → Prop, (∀ (x1 : B1) (x2 : B2) (x3 : B3) (x4 : B4) (x5 : B5) (x6 : B6) (x7 : B7) (x8 : B8) (x9 : B9) (x10 : B10) (x11 : B11) (x12 : B12) (x13 : B13) (x14 : B14) (x15 : B15) (x16 : B16) (x17 : B17) (x18 : B18) (x19 : B19) (x20 : B20) (x21 : B21) (x22 : B22) (x23 : B23) (x24 : B24) (x25 : B25), k x1 x2 x3 x4 x5 x6 x7 x8 x9 x10 x11 x12 x13 x14 x15 x16 x17 x18 x19 x20 x21 x22 x23 x24 x25 → P x1 x2 x3 x4 x5 x6 x7 x8 x9 x10 x11 x12 x13 x14 x15 x16 x17 x18 x19 x20 x21 x22 x23 x24 x25) → ∀ (x1 : B1) (x2 : B2) (x3 : B3) (x4 : B4) (x5 : B5) (x6 : B6) (x7 : B7) (x8 : B8) (x9 : B9) (x10 : B10) (x11 : B11) (x12 : B12) (x13 : B13) (x14 : B14) (x15 : B15) (x16 : B16) (x17 : B17) (x18 : B18) (x19 : B19) (x20 : B20) (x21 : B21) (x22 : B22) (x23 : B23) (x24 : B24) (x25 : B25), F k x1 x2 x3 x4 x5 x6 x7 x8 x9 x10 x11 x12 x13 x14 x15 x16 x17 x18 x19 x20 x21 x22 x23 x24 x25 → P x1 x2 x3 x4 x5 x6 x7 x8 x9 x10 x11 x12 x13 x14 x15 x16 x17 x18 x19 x20 x21 x22 x23 x24 x25) : ∀ (n : Nat) (x1 : B1) (x2 : B2) (x3 : B3) (x4 : B4) (x5 : B5) (x6 : B6) (x7 : B7) (x8 : B8) (x9 : B9) (x10 : B10) (x11 : B11) (x12 : B12) (x13 : B13) (x14 : B14) (x15 : B15) (x16 : B16) (x17 : B17) (x18 : B18) (x19 : B19) (x20 : B20) (x21 : B21) (x22 : B22) (x23 : B23) (x24 : B24) (x25 : B25), sL25 F n x1 x2 x3 x4 x5 x6 x7 x8 x9 x10 x11 x12 x13 x14 x15 x16 x17 x18 x19 x20 x21 x22 x23 x24 x25 → P x1 x2 x3 x4 x5 x6 x7 x8 x9 x10 x11 x12 x13 x14 x15 x16 x17 x18 x19 x20 x21 x22 x23 x24 x25
  | 0, _, _, _, _, _, _, _, _, _, _, _, _, _, _, _, _, _, _, _, _, _, _, _, _, _ => fun h => h.elim
  | n + 1, x1, x2, x3, x4, x5, x6, x7, x8, x9, x10, x11, x12, x13, x14, x15, x16, x17, x18, x19, x20, x21, x22, x23, x24, x25 => fun h => step (sL25 F n) (sL25_ind P step n) x1 x2 x3 x4 x5 x6 x7 x8 x9 x10 x11 x12 x13 x14 x15 x16 x17 x18 x19 x20 x21 x22 x23 x24 x25 h
theorem sL25_of {B1 B2 B3 B4 B5 B6 B7 B8 B9 B10 B11 B12 B13 B14 B15 B16 B17 B18 B19 B20 B21 B22 B23 B24 B25 : Type} {F : (B1 → B2 → B3 → B4 → B5 → B6 → B7 → B8 → B9 → B10 → B11 → B12 → B13 → B14 → B15 → B16 → B17 → B18 → B19 → B20 → B21 → B22 → B23 → B24 → B25 → Prop) → B1 → B2 → B3 → B4 → B5 → B6 → B7 → B8 → B9 → B10 → B11 → B12 → B13 → B14 → B15 → B16 → B17 → B18 → B19 → B20 → B21 → B22 → B23 → B24 → B25 → Prop} (I : B1 → B2 → B3 → B4 → B5 → B6 → B7 → B8 → B9 → B10 → B11 → B12 → B13 → B14 → B15 → B16 → B17 → B18 → B19 → B20 → B21 → B22 → B23 → B24 → B25 → Prop) (μ : B1 → B2 → B3 → B4 → B5 → B6 → B7 → B8 → B9 → B10 → B11 → B12 → B13 → B14 → B15 → B16 → B17 → B18 → B19 → B20 → B21 → B22 → B23 → B24 → B25 → Nat) (step : ∀ (k : B1 → B2 → B3 → B4 → B5 → B6 → B7 → B8 → B9 → B10 → B11 → B12 → B13 → B14 → B15 → B16 → B17 → B18 → B19 → B20 → B21 → B22 → B23 → B24 → B25 → Prop) (x1 : B1) (x2 : B2) (x3 : B3) (x4 : B4) (x5 : B5) (x6 : B6) (x7 : B7) (x8 : B8) (x9 : B9) (x10 : B10) (x11 : B11) (x12 : B12) (x13 : B13) (x14 : B14) (x15 : B15) (x16 : B16) (x17 : B17) (x18 : B18) (x19 : B19) (x20 : B20) (x21 : B21) (x22 : B22) (x23 : B23) (x24 : B24) (x25 : B25), I x1 x2 x3 x4 x5 x6 x7 x8 x9 x10 x11 x12 x13 x14 x15 x16 x17 x18 x19 x20 x21 x22 x23 x24 x25 → (∀ (z1 : B1) (z2 : B2) (z3 : B3) (z4 : B4) (z5 : B5) (z6 : B6) (z7 : B7) (z8 : B8) (z9 : B9) (z10 : B10) (z11 : B11) (z12 : B12) (z13 : B13) (z14 : B14) (z15 : B15) (z16 : B16) (z17 : B17) (z18 : B18) (z19 : B19) (z20 : B20) (z21 : B21) (z22 : B22) (z23 : B23) (z24 : B24) (z25 : B25), I z1 z2 z3 z4 z5 z6 z7 z8 z9 z10 z11 z12 z13 z14 z15 z16 z17 z18 z19 z20 z21 z22 z23 z24 z25 → μ z1 z2 z3 z4 z5 z6 z7 z8 z9 z10 z11 z12 z13 z14 z15 z16 z17 z18 z19 z20 z21 z22 z23 z24 z25 < μ x1 x2 x3 x4 x5 x6 x7 x8 x9 x10 x11 x12 x13 x14 x15 x16 x17 x18 x19 x20 x21 x22 x23 x24 x25 → k z1 z2 z3 z4 z5 z6 z7 z8 z9 z10 z11 z12 z13 z14 z15 z16 z17 z18 z19 z20 z21 z22 z23 z24 z25) → F k x1 x2 x3 x4 x5 x6 x7 x8 x9 x10 x11 x12 x13 x14 x15 x16 x17 x18 x19 x20 x21 x22 x23 x24 x25) (x1 : B1) (x2 : B2) (x3 : B3) (x4 : B4) (x5 : B5) (x6 : B6) (x7 : B7) (x8 : B8) (x9 : B9) (x10 : B10) (x11 : B11) (x12 : B12) (x13 : B13) (x14 : B14) (x15 : B15) (x16 : B16) (x17 : B17) (x18 : B18) (x19 : B19) (x20 : B20) (x21 : B21) (x22 : B22) (x23 : B23) (x24 : B24) (x25 : B25) (h : I x1 x2 x3 x4 x5 x6 x7 x8 x9 x10 x11 x12 x13 x14 x15 x16 x17 x18 x19 x20 x21 x22 x23 x24 x25) : ∃ n, sL25 F n x1 x2 x3 x4 x5 x6 x7 x8 x9 x10 x11 x12 x13 x14 x15 x16 x17 x18 x19 x20 x21 x22 x23 x24 x25 := by
  have key : ∀ (n : Nat) (x1 : B1) (x2 : B2) (x3 : B3) (x4 : B4) (x5 : B5) (x6 : B6) (x7 : B7) (x8 : B8) (x9 : B9) (x10 : B10) (x11 : B11) (x12 : B12) (x13 : B13) (x14 : B14) (x15 : B15) (x16 : B16) (x17 : B17) (x18 : B18) (x19 : B19) (x20 : B20) (x21 : B21) (x22 : B22) (x23 : B23) (x24 : B24) (x25 : B25), I x1 x2 x3 x4 x5 x6 x7 x8 x9 x10 x11 x12 x13 x14 x15 x16 x17 x18 x19 x20 x21 x22 x23 x24 x25 → μ x1 x2 x3 x4 x5 x6 x7 x8 x9 x10 x11 x12 x13 x14 x15 x16 x17 x18 x19 x20 x21 x22 x23 x24 x25 < n → sL25 F n x1 x2 x3 x4 x5 x6 x7 x8 x9 x10 x11 x12 x13 x14 x15 x16 x17 x18 x19 x20 x21 x22 x23 x24 x25 := by
    intro n
    induction n with
    | zero => intro x1 x2 x3 x4 x5 x6 x7 x8 x9 x10 x11 x12 x13 x14 x15 x16 x17 x18 x19 x20 x21 x22 x23 x24 x25 _ h; exact absurd h (Nat.not_lt_zero _)
    | succ n ih => intro x1 x2 x3 x4 x5 x6 x7 x8 x9 x10 x11 x12 x13 x14 x15 x16 x17 x18 x19 x20 x21 x22 x23 x24 x25 hI hn; exact step (sL25 F n) x1 x2 x3 x4 x5 x6 x7 x8 x9 x10 x11 x12 x13 x14 x15 x16 x17 x18 x19 x20 x21 x22 x23 x24 x25 hI (fun z1 z2 z3 z4 z5 z6 z7 z8 z9 z10 z11 z12 z13 z14 z15 z16 z17 z18 z19 z20 z21 z22 z23 z24 z25 hI2 h2 => ih z1 z2 z3 z4 z5 z6 z7 z8 z9 z10 z11 z12 z13 z14 z15 z16 z17 z18 z19 z20 z21 z22 z23 z24 z25 hI2 (by omega))
  exact ⟨_, key _ x1 x2 x3 x4 x5 x6 x7 x8 x9 x10 x11 x12 x13 x14 x15 x16 x17 x18 x19 x20 x21 x22 x23 x24 x25 h (Nat.lt_succ_self _)⟩
def sL26 {B1 B2 B3 B4 B5 B6 B7 B8 B9 B10 B11 B12 B13 B14 B15 B16 B17 B18 B19 B20 B21 B22 B23 B24 B25 B26 : Type} (F : (B1 → B2 → B3 → B4 → B5 → B6 → B7 → B8 → B9 → B10 → B11 → B12 → B13 → B14 → B15 → B16 → B17 → B18 → B19 → B20 → B21 → B22 → B23 → B24 → B25 → B26 → Prop) → B1 → B2 → B3 → B4 → B5 → B6 → B7 → B8 → B9 → B10 → B11 → B12 → B13 → B14 → B15 → B16 → B17 → B18 → B19 → B20 → B21 → B22 → B23 → B24 → B25 → B26 → Prop) : Nat → B1 → B2 → B3 → B4 → B5 → B6 → B7 → B8 → B9 → B10 → B11 → B12 → B13 → B14 → B15 → B16 → B17 → B18 → B19 → B20 → B21 → B22 → B23 → B24 → B25 → B26 → Prop
  | 0 => fun _ _ _ _ _ _ _ _ _ _ _ _ _ _ _ _ _ _ _ _ _ _ _ _ _ _ => False
  | n + 1 => F (sL26 F n)
theorem sL26_ind {B1 B2 B3 B4 B5 B6 B7 B8 B9 B10 B11 B12 B13 B14 B15 B16 B17 B18 B19 B20 B21 B22 B23 B24 B25 B26 : Type} {F : (B1 → B2 → B3 → B4 → B5 → B6 → B7 → B8 → B9 → B10 → B11 → B12 → B13 → B14 → B15 → B16 → B17 → B18 → B19 → B20 → B21 → B22 → B23 → B24 → B25 → B26 → Prop) → B1 → B2 → B3 → B4 → B5 → B6 → B7 → B8 → B9 → B10 → B11 → B12 → B13 → B14 → B15 → B16 → B17 → B18 → B19 → B20 → B21 → B22 → B23 → B24 → B25 → B26 → Prop} (P : B1 → B2 → B3 → B4 → B5 → B6 → B7 → B8 → B9 → B10 → B11 → B12 → B13 → B14 → B15 → B16 → B17 → B18 → B19 → B20 → B21 → B22 → B23 → B24 → B25 → B26 → Prop) (step : ∀ k : B1 → B2 → B3 → B4 → B5 → B6 → B7 → B8 → B9 → B10 → B11 → B12 → B13 → B14 → B15 → B16 → B17 → B18 → B19 → B20 → B21 → B22 → B23 → B24 → B25 → B26 → Prop, (∀ (x1 : B1) (x2 : B2) (x3 : B3) (x4 : B4) (x5 : B5) (x6 : B6) (x7 : B7) (x8 : B8) (x9 : B9) (x10 : B10) (x11 : B11) (x12 : B12) (x13 : B13) (x14 : B14) (x15 : B15) (x16 : B16) (x17 : B17) (x18 : B18) (x19 : B19) (x20 : B20) (x21 : B21) (x22 : B22) (x23 : B23) (x24 : B24) (x25 : B25) (x26 : B26), k x1 x2 x3 x4 x5 x6 x7 x8 x9 x10 x11 x12 x13 x14 x15 x16 x17 x18 x19 x20 x21 x22 x23 x24 x25 x26 → P x1 x2 x3 x4 x5 x6 x7 x8 x9 x10 x11 x12 x13 x14 x15 x16 x17 x18 x19 x20 x21 x22 x23 x24 x25 x26) → ∀ (x1 : B1) (x2 : B2) (x3 : B3) (x4 : B4) (x5 : B5) (x6 : B6) (x7 : B7) (x8 : B8) (x9 : B9) (x10 : B10) (x11 : B11) (x12 : B12) (x13 : B13) (x14 : B14) (x15 : B15) (x16 : B16) (x17 : B17) (x18 : B18) (x19 : B19) (x20 : B20) (x21 : B21) (x22 : B22) (x23 : B23) (x24 : B24) (x25 : B25) (x26 : B26), F k x1 x2 x3 x4 x5 x6 x7 x8 x9 x10 x11 x12 x13 x14 x15 x16 x17 x18 x19 x20 x21 x22 x23 x24 x25 x26 → P x1 x2 x3 x4 x5 x6 x7 x8 x9 x10 x11 x12 x13 x14 x15 x16 x17 x18 x19 x20 x21 x22 x23 x24 x25 x26) : ∀ (n : Nat) (x1 : B1) (x2 : B2) (x3 : B3) (x4 : B4) (x5 : B5) (x6 : B6) (x7 : B7) (x8 : B8) (x9 : B9) (x10 : B10) (x11 : B11) (x12 : B12) (x13 : B13) (x14 : B14) (x15 : B15) (x16 : B16) (x17 : B17) (x18 : B18) (x19 : B19) (x20 : B20) (x21 : B21) (x22 : B22) (x23 : B23) (x24 : B24) (x25 : B25) (x26 : B26), sL26 F n x1 x2 x3 x4 x5 x6 x7 x8 x9 x10 x11 x12 x13 x14 x15 x16 x17 x18 x19 x20 x21 x22 x23 x24 x25 x26 → P x1 x2 x3 x4 x5 x6 x7 x8 x9 x10 x11 x12 x13 x14 x15 x16 x17 x18 x19 x20 x21 x22 x23 x24 x25 x26
  | 0, _, _, _, _, _, _, _, _, _, _, _, _, _, _, _, _, _, _, _, _, _, _, _, _, _, _ => fun h => h.elim
  | n + 1, x1, x2, x3, x4, x5, x6, x7, x8, x9, x10, x11, x12, x13, x14, x15, x16, x17, x18, x19, x20, x21, x22, x23, x24, x25, x26 => fun h => step (sL26 F n) (sL26_ind P step n) x1 x2 x3 x4 x5 x6 x7 x8 x9 x10 x11 x12 x13 x14 x15 x16 x17 x18 x19 x20 x21 x22 x23 x24 x25 x26 h
theorem sL26_of {B1 B2 B3 B4 B5 B6 B7 B8 B9 B10 B11 B12 B13 B14 B15 B16 B17 B18 B19 B20 B21 B22 B23 B24 B25 B26 : Type} {F : (B1 → B2 → B3 → B4 → B5 → B6 → B7 → B8 → B9 → B10 → B11 → B12 → B13 → B14 → B15 → B16 → B17 → B18 → B19 → B20 → B21 → B22 → B23 → B24 → B25 → B26 → Prop) → B1 → B2 → B3 → B4 → B5 → B6 → B7 → B8 → B9 → B10 → B11 → B12 → B13 → B14 → B15 → B16 → B17 → B18 → B19 → B20 → B21 → B22 → B23 → B24 → B25 → B26 → Prop} (I : B1 → B2 → B3 → B4 → B5 → B6 → B7 → B8 → B9 → B10 → B11 → B12 → B13 → B14 → B15 → B16 → B17 → B18 → B19 → B20 → B21 → B22 → B23 → B24 → B25 → B26 → Prop) (μ : B1 → B2 → B3 → B4 → B5 → B6 → B7 → B8 → B9 → B10 → B11 → B12 → B13 → B14 → B15 → B16 → B17 → B18 → B19 → B20 → B21 → B22 → B23 → B24 → B25 → B26 → Nat) (step : ∀ (k : B1 → B2 → B3 → B4 → B5 → B6 → B7 → B8 → B9 → B10 → B11 → B12 → B13 → B14 → B15 → B16 → B17 → B18 → B19 → B20 → B21 → B22 → B23 → B24 → B25 → B26 → Prop) (x1 : B1) (x2 : B2) (x3 : B3) (x4 : B4) (x5 : B5) (x6 : B6) (x7 : B7) (x8 : B8) (x9 : B9) (x10 : B10) (x11 : B11) (x12 : B12) (x13 : B13) (x14 : B14) (x15 : B15) (x16 : B16) (x17 : B17) (x18 : B18) (x19 : B19) (x20 : B20) (x21 : B21) (x22 : B22) (x23 : B23) (x24 : B24) (x25 : B25) (x26 : B26), I x1 x2 x3 x4 x5 x6 x7 x8 x9 x10 x11 x12 x13 x14 x15 x16 x17 x18 x19 x20 x21 x22 x23 x24 x25 x26 → (∀ (z1 : B1) (z2 : B2) (z3 : B3) (z4 : B4) (z5 : B5) (z6 : B6) (z7 : B7) (z8 : B8) (z9 : B9) (z10 : B10) (z11 : B11) (z12 : B12) (z13 : B13) (z14 : B14) (z15 : B15) (z16 : B16) (z17 : B17) (z18 : B18) (z19 : B19) (z20 : B20) (z21 : B21) (z22 : B22) (z23 : B23) (z24 : B24) (z25 : B25) (z26 : B26), I z1 z2 z3 z4 z5 z6 z7 z8 z9 z10 z11 z12 z13 z14 z15 z16 z17 z18 z19 z20 z21 z22 z23 z24 z25 z26 → μ z1 z2 z3 z4 z5 z6 z7 z8 z9 z10 z11 z12 z13 z14 z15 z16 z17 z18 z19 z20 z21 z22 z23 z24 z25 z26 < μ x1 x2 x3 x4 x5 x6 x7 x8 x9 x10 x11 x12 x13 x14 x15 x16 x17 x18 x19 x20 x21 x22 x23 x24 x25 x26 → k z1 z2 z3 z4 z5 z6 z7 z8 z9 z10 z11 z12 z13 z14 z15 z16 z17 z18 z19 z20 z21 z22 z23 z24 z25 z26) → F k x1 x2 x3 x4 x5 x6 x7 x8 x9 x10 x11 x12 x13 x14 x15 x16 x17 x18 x19 x20 x21 x22 x23 x24 x25 x26) (x1 : B1) (x2 : B2) (x3 : B3) (x4 : B4) (x5 : B5) (x6 : B6) (x7 : B7) (x8 : B8) (x9 : B9) (x10 : B10) (x11 : B11) (x12 : B12) (x13 : B13) (x14 : B14) (x15 : B15) (x16 : B16) (x17 : B17) (x18 : B18) (x19 : B19) (x20 : B20) (x21 : B21) (x22 : B22) (x23 : B23) (x24 : B24) (x25 : B25) (x26 : B26) (h : I x1 x2 x3 x4 x5 x6 x7 x8 x9 x10 x11 x12 x13 x14 x15 x16 x17 x18 x19 x20 x21 x22 x23 x24 x25 x26) : ∃ n, sL26 F n x1 x2 x3 x4 x5 x6 x7 x8 x9 x10 x11 x12 x13 x14 x15 x16 x17 x18 x19 x20 x21 x22 x23 x24 x25 x26 := by
  have key : ∀ (n : Nat) (x1 : B1) (x2 : B2) (x3 : B3) (x4 : B4) (x5 : B5) (x6 : B6) (x7 : B7) (x8 : B8) (x9 : B9) (x10 : B10) (x11 : B11) (x12 : B12) (x13 : B13) (x14 : B14) (x15 : B15) (x16 : B16) (x17 : B17) (x18 : B18) (x19 : B19) (x20 : B20) (x21 : B21) (x22 : B22) (x23 : B23) (x24 : B24) (x25 : B25) (x26 : B26), I x1 x2 x3 x4 x5 x6 x7 x8 x9 x10 x11 x12 x13 x14 x15 x16 x17 x18 x19 x20 x21 x22 x23 x24 x25 x26 → μ x1 x2 x3 x4 x5 x6 x7 x8 x9 x10 x11 x12 x13 x14 x15 x16 x17 x18 x19 x20 x21 x22 x23 x24 x25 x26 < n → sL26 F n x1 x2 x3 x4 x5 x6 x7 x8 x9 x10 x11 x12 x13 x14 x15 x16 x17 x18 x19 x20 x21 x22 x23 x24 x25 x26 := by
    intro n
    induction n with
    | zero => intro x1 x2 x3 x4 x5 x6 x7 x8 x9 x10 x11 x12 x13 x14 x15 x16 x17 x18 x19 x20 x21 x22 x23 x24 x25 x26 _ h; exact absurd h (Nat.not_lt_zero _)
    | succ n ih => intro x1 x2 x3 x4 x5 x6 x7 x8 x9 x10 x11 x12 x13 x14 x15 x16 x17 x18 x19 x20 x21 x22 x23 x24 x25 x26 hI hn; exact step (sL26 F n) x1 x2 x3 x4 x5 x6 x7 x8 x9 x10 x11 x12 x13 x14 x15 x16 x17 x18 x19 x20 x21 x22 x23 x24 x25 x26 hI (fun z1 z2 z3 z4 z5 z6 z7 z8 z9 z10 z11 z12 z13 z14 z15 z16 z17 z18 z19 z20 z21 z22 z23 z24 z25 z26 hI2 h2 => ih z1 z2 z3 z4 z5 z6 z7 z8 z9 z10 z11 z12 z13 z14 z15 z16 z17 z18 z19 z20 z21 z22 z23 z24 z25 z26 hI2 (by omega))
  exact ⟨_, key _ x1 x2 x3 x4 x5 x6 x7 x8 x9 x10 x11 x12 x13 x14 x15 x16 x17 x18 x19 x20 x21 x22 x23 x24 x25 x26 h (Nat.lt_succ_self _)⟩
def sL27 {B1 B2 B3 B4 B5 B6 B7 B8 B9 B10 B11 B12 B13 B14 B15 B16 B17 B18 B19 B20 B21 B22 B23 B24 B25 B26 B27 : Type} (F : (B1 → B2 → B3 → B4 → B5 → B6 → B7 → B8 → B9 → B10 → B11 → B12 → B13 → B14 → B15 → B16 → B17 → B18 → B19 → B20 → B21 → B22 → B23 → B24 → B25 → B26 → B27 → Prop) → B1 → B2 → B3 → B4 → B5 → B6 → B7 → B8 → B9 → B10 → B11 → B12 → B13 → B14 → B15 → B16 → B17 → B18 → B19 → B20 → B21 → B22 → B23 → B24 → B25 → B26 → B27 → Prop) : Nat → B1 → B2 → B3 → B4 → B5 → B6 → B7 → B8 → B9 → B10 → B11 → B12 → B13 → B14 → B15 → B16 → B17 → B18 → B19 → B20 → B21 → B22 → B23 → B24 → B25 → B26 → B27 → Prop
  | 0 => fun _ _ _ _ _ _ _ _ _ _ _ _ _ _ _ _ _ _ _ _ _ _ _ _ _ _ _ => False
  | n + 1 => F (sL27 F n)
theorem sL27_ind {B1 B2 B3 B4 B5 B6 B7 B8 B9 B10 B11 B12 B13 B14 B15 B16 B17 B18 B19 B20 B21 B22 B23 B24 B25 B26 B27 : Type} {F : (B1 → B2 → B3 → B4 → B5 → B6 → B7 → B8 → B9 → B10 → B11 → B12 → B13 → B14 → B15 → B16 → B17 → B18 → B19 → B20 → B21 → B22 → B23 → B24 → B25 → B26 → B27 → Prop) → B1 → B2 → B3 → B4 → B5 → B6 → B7 → B8 → B9 → B10 → B11 → B12 → B13 → B14 → B15 → B16 → B17 → B18 → B19 → B20 → B21 → B22 → B23 → B24 → B25 → B26 → B27 → Prop} (P : B1 → B2 → B3 → B4 → B5 → B6 → B7 → B8 → B9 → B10 → B11 → B12 → B13 → B14 → B15 → B16 → B17 → B18 → B19 → B20 → B21 → B22 → B23 → B24 → B25 → B26 → B27 → Prop) (step : ∀ k : B1 → B2 → B3 → B4 → B5 → B6 → B7 → B8 → B9 → B10 → B11 → B12 → B13 → B14 → B15 → B16 → B17 → B18 → B19 → B20 → B21 → B22 → B23 → B24 → B25 → B26 → B27 → Prop, (∀ (x1 : B1) (x2 : B2) (x3 : B3) (x4 : B4) (x5 : B5) (x6 : B6) (x7 : B7) (x8 : B8) (x9 : B9) (x10 : B10) (x11 : B11) (x12 : B12) (x13 : B13) (x14 : B14) (x15 : B15) (x16 : B16) (x17 : B17) (x18 : B18) (x19 : B19) (x20 : B20) (x21 : B21) (x22 : B22) (x23 : B23) (x24 : B24) (x25 : B25) (x26 : B26) (x27 : B27), k x1 x2 x3 x4 x5 x6 x7 x8 x9 x10 x11 x12 x13 x14 x15 x16 x17 x18 x19 x20 x21 x22 x23 x24 x25 x26 x27 → P x1 x2 x3 x4 x5 x6 x7 x8 x9 x10 x11 x12 x13 x14 x15 x16 x17 x18 x19 x20 x21 x22 x23 x24 x25 x26 x27) → ∀ (x1 : B1) (x2 : B2) (x3 : B3) (x4 : B4) (x5 : B5) (x6 : B6) (x7 : B7) (x8 : B8) (x9 : B9) (x10 : B10) (x11 : B11) (x12 : B12) (x13 : B13) (x14 : B14) (x15 : B15) (x16 : B16) (x17 : B17) (x18 : B18) (x19 : B19) (x20 : B20) (x21 : B21) (x22 : B22) (x23 : B23) (x24 : B24) (x25 : B25) (x26 : B26) (x27 : B27), F k x1 x2 x3 x4 x5 x6 x7 x8 x9 x10 x11 x12 x13 x14 x15 x16 x17 x18 x19 x20 x21 x22 x23 x24 x25 x26 x27 → P x1 x2 x3 x4 x5 x6 x7 x8 x9 x10 x11 x12 x13 x14 x15 x16 x17 x18 x19 x20 x21 x22 x23 x24 x25 x26 x27) : ∀ (n : Nat) (x1 : B1) (x2 : B2) (x3 : B3) (x4 : B4) (x5 : B5) (x6 : B6) (x7 : B7) (x8 : B8) (x9 : B9) (x10 : B10) (x11 : B11) (x12 : B12) (x13 : B13) (x14 : B14) (x15 : B15) (x16 : B16) (x17 : B17) (x18 : B18) (x19 : B19) (x20 : B20) (x21 : B21) (x22 : B22) (x23 : B23) (x24 : B24) (x25 : B25) (x26 : B26) (x27 : B27), sL27 F n x1 x2 x3 x4 x5 x6 x7 x8 x9 x10 x11 x12 x13 x14 x15 x16 x17 x18 x19 x20 x21 x22 x23 x24 x25 x26 x27 → P x1 x2 x3 x4 x5 x6 x7 x8 x9 x10 x11 x12 x13 x14 x15 x16 x17 x18 x19 x20 x21 x22 x23 x24 x25 x26 x27
  | 0, _, _, _, _, _, _, _, _, _, _, _, _, _, _, _, _, _, _, _, _, _, _, _, _, _, _, _ => fun h => h.elim
  | n + 1, x1, x2, x3, x4, x5, x6, x7, x8, x9, x10, x11, x12, x13, x14, x15, x16, x17, x18, x19, x20, x21, x22, x23, x24, x25, x26, x27 => fun h => step (sL27 F n) (sL27_ind P step n) x1 x2 x3 x4 x5 x6 x7 x8 x9 x10 x11 x12 x13 x14 x15 x16 x17 x18 x19 x20 x21 x22 x23 x24 x25 x26 x27 h
theorem sL27_of {B1 B2 B3 B4 B5 B6 B7 B8 B9 B10 B11 B12 B13 B14 B15 B16 B17 B18 B19 B20 B21 B22 B23 B24 B25 B26 B27 : Type} {F : (B1 → B2 → B3 → B4 → B5 → B6 → B7 → B8 → B9 → B10 → B11 → B12 → B13 → B14 → B15 → B16 → B17 → B18 → B19 → B20 → B21 → B22 → B23 → B24 → B25 → B26 → B27 → Prop) → B1 → B2 → B3 → B4 → B5 → B6 → B7 → B8 → B9 → B10 → B11 → B12 → B13 → B14 → B15 → B16 → B17 → B18 → B19 → B20 → B21 → B22 → B23 → B24 → B25 → B26 → B27 → Prop} (I : B1 → B2 → B3 → B4 → B5 → B6 → B7 → B8 → B9 → B10 → B11 → B12 → B13 → B14 → B15 → B16 → B17 → B18 → B19 → B20 → B21 → B22 → B23 → B24 → B25 → B26 → B27 → Prop) (μ : B1 → B2 → B3 → B4 → B5 → B6 → B7 → B8 → B9 → B10 → B11 → B12 → B13 → B14 → B15 → B16 → B17 → B18 → B19 → B20 → B21 → B22 → B23 → B24 → B25 → B26 → B27 → Nat) (step : ∀ (k : B1 → B2 → B3 → B4 → B5 → B6 → B7 → B8 → B9 → B10 → B11 → B12 → B13 → B14 → B15 → B16 → B17 → B18 → B19 → B20 → B21 → B22 → B23 → B24 → B25 → B26 → B27 → Prop) (x1 : B1) (x2 : B2) (x3 : B3) (x4 : B4) (x5 : B5) (x6 : B6) (x7 : B7) (x8 : B8) (x9 : B9) (x10 : B10) (x11 : B11) (x12 : B12) (x13 : B13) (x14 : B14) (x15 : B15) (x16 : B16) (x17 : B17) (x18 : B18) (x19 : B19) (x20 : B20) (x21 : B21) (x22 : B22) (x23 : B23) (x24 : B24) (x25 : B25) (x26 : B26) (x27 : B27), I x1 x2 x3 x4 x5 x6 x7 x8 x9 x10 x11 x12 x13 x14 x15 x16 x17 x18 x19 x20 x21 x22 x23 x24 x25 x26 x27 → (∀ (z1 : B1) (z2 : B2) (z3 : B3) (z4 : B4) (z5 : B5) (z6 : B6) (z7 : B7) (z8 : B8) (z9 : B9) (z10 : B10) (z11 : B11) (z12 : B12) (z13 : B13) (z14 : B14) (z15 : B15) (z16 : B16) (z17 : B17) (z18 : B18) (z19 : B19) (z20 : B20) (z21 : B21) (z22 : B22) (z23 : B23) (z24 : B24) (z25 : B25) (z26 : B26) (z27 : B27), I z1 z2 z3 z4 z5 z6 z7 z8 z9 z10 z11 z12 z13 z14 z15 z16 z17 z18 z19 z20 z21 z22 z23 z24 z25 z26 z27 → μ z1 z2 z3 z4 z5 z6 z7 z8 z9 z10 z11 z12 z13 z14 z15 z16 z17 z18 z19 z20 z21 z22 z23 z24 z25 z26 z27 < μ x1 x2 x3 x4 x5 x6 x7 x8 x9 x10 x11 x12 x13 x14 x15 x16 x17 x18 x19 x20 x21 x22 x23 x24 x25 x26 x27 → k z1 z2 z3 z4 z5 z6 z7 z8 z9 z10 z11 z12 z13 z14 z15 z16 z17 z18 z19 z20 z21 z22 z23 z24 z25 z26 z27) → F k x1 x2 x3 x4 x5 x6 x7 x8 x9 x10 x11 x12 x13 x14 x15 x16 x17 x18 x19 x20 x21 x22 x23 x24 x25 x26 x27) (x1 : B1) (x2 : B2) (x3 : B3) (x4 : B4) (x5 : B5) (x6 : B6) (x7 : B7) (x8 : B8) (x9 : B9) (x10 : B10) (x11 : B11) (x12 : B12) (x13 : B13) (x14 : B14) (x15 : B15) (x16 : B16) (x17 : B17) (x18 : B18) (x19 : B19) (x20 : B20) (x21 : B21) (x22 : B22) (x23 : B23) (x24 : B24) (x25 : B25) (x26 : B26) (x27 : B27) (h : I x1 x2 x3 x4 x5 x6 x7 x8 x9 x10 x11 x12 x13 x14 x15 x16 x17 x18 x19 x20 x21 x22 x23 x24 x25 x26 x27) : ∃ n, sL27 F n x1 x2 x3 x4 x5 x6 x7 x8 x9 x10 x11 x12 x13 x14 x15 x16 x17 x18 x19 x20 x21 x22 x23 x24 x25 x26 x27 := by
  have key : ∀ (n : Nat) (x1 : B1) (x2 : B2) (x3 : B3) (x4 : B4) (x5 : B5) (x6 : B6) (x7 : B7) (x8 : B8) (x9 : B9) (x10 : B10) (x11 : B11) (x12 : B12) (x13 : B13) (x14 : B14) (x15 : B15) (x16 : B16) (x17 : B17) (x18 : B18) (x19 : B19) (x20 : B20) (x21 : B21) (x22 : B22) (x23 : B23) (x24 : B24) (x25 : B25) (x26 : B26) (x27 : B27), I x1 x2 x3 x4 x5 x6 x7 x8 x9 x10 x11 x12 x13 x14 x15 x16 x17 x18 x19 x20 x21 x22 x23 x24 x25 x26 x27 → μ x1 x2 x3 x4 x5 x6 x7 x8 x9 x10 x11 x12 x13 x14 x15 x16 x17 x18 x19 x20 x21 x22 x23 x24 x25 x26 x27 < n → sL27 F n x1 x2 x3 x4 x5 x6 x7 x8 x9 x10 x11 x12 x13 x14 x15 x16 x17 x18 x19 x20 x21 x22 x23 x24 x25 x26 x27 := by
    intro n
    induction n with
    | zero => intro x1 x2 x3 x4 x5 x6 x7 x8 x9 x10 x11 x12 x13 x14 x15 x16 x17 x18 x19 x20 x21 x22 x23 x24 x25 x26 x27 _ h; exact absurd h (Nat.not_lt_zero _)
    | succ n ih => intro x1 x2 x3 x4 x5 x6 x7 x8 x9 x10 x11 x12 x13 x14 x15 x16 x17 x18 x19 x20 x21 x22 x23 x24 x25 x26 x27 hI hn; exact step (sL27 F n) x1 x2 x3 x4 x5 x6 x7 x8 x9 x10 x11 x12 x13 x14 x15 x16 x17 x18 x19 x20 x21 x22 x23 x24 x25 x26 x27 hI (fun z1 z2 z3 z4 z5 z6 z7 z8 z9 z10 z11 z12 z13 z14 z15 z16 z17 z18 z19 z20 z21 z22 z23 z24 z25 z26 z27 hI2 h2 => ih z1 z2 z3 z4 z5 z6 z7 z8 z9 z10 z11 z12 z13 z14 z15 z16 z17 z18 z19 z20 z21 z22 z23 z24 z25 z26 z27 hI2 (by omega))
  exact ⟨_, key _ x1 x2 x3 x4 x5 x6 x7 x8 x9 x10 x11 x12 x13 x14 x15 x16 x17 x18 x19 x20 x21 x22 x23 x24 x25 x26 x27 h (Nat.lt_succ_self _)⟩
def sL28 {B1 B2 B3 B4 B5 B6 B7 B8 B9 B10 B11 B12 B13 B14 B15 B16 B17 B18 B19 B20 B21 B22 B23 B24 B25 B26 B27 B28 : Type} (F : (B1 → B2 → B3 → B4 → B5 → B6 → B7 → B8 → B9 → B10 → B11 → B12 → B13 → B14 → B15 → B16 → B17 → B18 → B19 → B20 → B21 → B22 → B23 → B24 → B25 → B26 → B27 → B28 → Prop) → B1 → B2 → B3 → B4 → B5 → B6 → B7 → B8 → B9 → B10 → B11 → B12 → B13 → B14 → B15 → B16 → B17 → B18 → B19 → B20 → B21 → B22 → B23 → B24 → B25 → B26 → B27 → B28 → Prop) : Nat → B1 → B2 → B3 → B4 → B5 → B6 → B7 → B8 → B9 → B10 → B11 → B12 → B13 → B14 → B15 → B16 → B17 → B18 → B19 → B20 → B21 → B22 → B23 → B24 → B25 → B26 → B27 → B28 → Prop
  | 0 => fun _ _ _ _ _ _ _ _ _ _ _ _ _ _ _ _ _ _ _ _ _ _ _ _ _ _ _ _ => False
  | n + 1 => F (sL28 F n)
theorem sL28_ind {B1 B2 B3 B4 B5 B6 B7 B8 B9 B10 B11 B12 B13 B14 B15 B16 B17 B18 B19 B20 B21 B22 B23 B24 B25 B26 B27 B28 : Type} {F : (B1 → B2 → B3 → B4 → B5 → B6 → B7 → B8 → B9 → B10 → B11 → B12 → B13 → B14 → B15 → B16 → B17 → B18 → B19 → B20 → B21 → B22 → B23 → B24 → B25 → B26 → B27 → B28 → Prop) → B1 → B2 → B3 → B4 → B5 → B6 → B7 → B8 → B9 → B10 → B11 → B12 → B13 → B14 → B15 → B16 → B17 → B18 → B19 → B20 → B21 → B22 → B23 → B24 → B25 → B26 → B27 → B28 → Prop} (P : B1 → B2 → B3 → B4 → B5 → B6 → B7 → B8 → B9 → B10 → B11 → B12 → B13 → B14 → B15 → B16 → B17 → B18 → B19 → B20 → B21 → B22 → B23 → B24 → B25 → B26 → B27 → B28 → Prop) (step : ∀ k : B1 → B2 → B3 → B4 → B5 → B6 → B7 → B8 → B9 → B10 → B11 → B12 → B13 → B14 → B15 → B16 → B17 → B18 → B19 → B20 → B21 → B22 → B23 → B24 → B25 → B26 → B27 → B28 → Prop, (∀ (x1 : B1) (x2 : B2) (x3 : B3) (x4 : B4) (x5 : B5) (x6 : B6) (x7 : B7) (x8 : B8) (x9 : B9) (x10 : B10) (x11 : B11) (x12 : B12) (x13 : B13) (x14 : B14) (x15 : B15) (x16 : B16) (x17 : B17) (x18 : B18) (x19 : B19) (x20 : B20) (x21 : B21) (x22 : B22) (x23 : B23) (x24 : B24) (x25 : B25) (x26 : B26) (x27 : B27) (x28 : B28), k x1 x2 x3 x4 x5 x6 x7 x8 x9 x10 x11 x12 x13 x14 x15 x16 x17 x18 x19 x20 x21 x22 x23 x24 x25 x26 x27 x28 → P x1 x2 x3 x4 x5 x6 x7 x8 x9 x10 x11 x12 x13 x14 x15 x16 x17 x18 x19 x20 x21 x22 x23 x24 x25 x26 x27 x28) → ∀ (x1 : B1) (x2 : B2) (x3 : B3) (x4 : B4) (x5 : B5) (x6 : B6) (x7 : B7) (x8 : B8) (x9 : B9) (x10 : B10) (x11 : B11) (x12 : B12) (x13 : B13) (x14 : B14) (x15 : B15) (x16 : B16) (x17 : B17) (x18 : B18) (x19 : B19) (x20 : B20) (x21 : B21) (x22 : B22) (x23 : B23) (x24 : B24) (x25 : B25) (x26 : B26) (x27 : B27) (x28 : B28), F k x1 x2 x3 x4 x5 x6 x7 x8 x9 x10 x11 x12 x13 x14 x15 x16 x17 x18 x19 x20 x21 x22 x23 x24 x25 x26 x27 x28 → P x1 x2 x3 x4 x5 x6 x7 x8 x9 x10 x11 x12 x13 x14 x15 x16 x17 x18 x19 x20 x21 x22 x23 x24 x25 x26 x27 x28) : ∀ (n : Nat) (x1 : B1) (x2 : B2) (x3 : B3) (x4 : B4) (x5 : B5) (x6 : B6) (x7 : B7) (x8 : B8) (x9 : B9) (x10 : B10) (x11 : B11) (x12 : B12) (x13 : B13) (x14 : B14) (x15 : B15) (x16 : B16) (x17 : B17) (x18 : B18) (x19 : B19) (x20 : B20) (x21 : B21) (x22 : B22) (x23 : B23) (x24 : B24) (x25 : B25) (x26 : B26) (x27 : B27) (x28 : B28), sL28 F n x1 x2 x3 x4 x5 x6 x7 x8 x9 x10 x11 x12 x13 x14 x15 x16 x17 x18 x19 x20 x21 x22 x23 x24 x25 x26 x27 x28 → P x1 x2 x3 x4 x5 x6 x7 x8 x9 x10 x11 x12 x13 x14 x15 x16 x17 x18 x19 x20 x21 x22 x23 x24 x25 x26 x27 x28
  | 0, _, _, _, _, _, _, _, _, _, _, _, _, _, _, _, _, _, _, _, _, _, _, _, _, _, _, _, _ => fun h => h.elim
  | n + 1, x1, x2, x3, x4, x5, x6, x7, x8, x9, x10, x11, x12, x13, x14, x15, x16, x17, x18, x19, x20, x21, x22, x23, x24, x25, x26, x27, x28 => fun h => step (sL28 F n) (sL28_ind P step n) x1 x2 x3 x4 x5 x6 x7 x8 x9 x10 x11 x12 x13 x14 x15 x16 x17 x18 x19 x20 x21 x22 x23 x24 x25 x26 x27 x28 h
theorem sL28_of {B1 B2 B3 B4 B5 B6 B7 B8 B9 B10 B11 B12 B13 B14 B15 B16 B17 B18 B19 B20 B21 B22 B23 B24 B25 B26 B27 B28 : Type} {F : (B1 → B2 → B3 → B4 → B5 → B6 → B7 → B8 → B9 → B10 → B11 → B12 → B13 → B14 → B15 → B16 → B17 → B18 → B19 → B20 → B21 → B22 → B23 → B24 → B25 → B26 → B27 → B28 → Prop) → B1 → B2 → B3 → B4 → B5 → B6 → B7 → B8 → B9 → B10 → B11 → B12 → B13 → B14 → B15 → B16 → B17 → B18 → B19 → B20 → B21 → B22 → B23 → B24 → B25 → B26 → B27 → B28 → Prop} (I : B1 → B2 → B3 → B4 → B5 → B6 → B7 → B8 → B9 → B10 → B11 → B12 → B13 → B14 → B15 → B16 → B17 → B18 → B19 → B20 → B21 → B22 → B23 → B24 → B25 → B26 → B27 → B28 → Prop) (μ : B1 → B2 → B3 → B4 → B5 → B6 → B7 → B8 → B9 → B10 → B11 → B12 → B13 → B14 → B15 → B16 → B17 → B18 → B19 → B20 → B21 → B22 → B23 → B24 → B25 → B26 → B27 → B28 → Nat) (step : ∀ (k : B1 → B2 → B3 → B4 → B5 → B6 → B7 → B8 → B9 → B10 → B11 → B12 → B13 → B14 → B15 → B16 → B17 → B18 → B19 → B20 → B21 → B22 → B23 → B24 → B25 → B26 → B27 → B28 → Prop) (x1 : B1) (x2 : B2) (x3 : B3) (x4 : B4) (x5 : B5) (x6 : B6) (x7 : B7) (x8 : B8) (x9 : B9) (x10 : B10) (x11 : B11) (x12 : B12) (x13 : B13) (x14 : B14) (x15 : B15) (x16 : B16) (x17 : B17) (x18 : B18) (x19 : B19) (x20 : B20) (x21 : B21) (x22 : B22) (x23 : B23) (x24 : B24) (x25 : B25) (x26 : B26) (x27 : B27) (x28 : B28), I x1 x2 x3 x4 x5 x6 x7 x8 x9 x10 x11 x12 x13 x14 x15 x16 x17 x18 x19 x20 x21 x22 x23 x24 x25 x26 x27 x28 → (∀ (z1 : B1) (z2 : B2) (z3 : B3) (z4 : B4) (z5 : B5) (z6 : B6) (z7 : B7) (z8 : B8) (z9 : B9) (z10 : B10) (z11 : B11) (z12 : B12) (z13 : B13) (z14 : B14) (z15 : B15) (z16 : B16) (z17 : B17) (z18 : B18) (z19 : B19) (z20 : B20) (z21 : B21) (z22 : B22) (z23 : B23) (z24 : B24) (z25 : B25) (z26 : B26) (z27 : B27) (z28 : B28), I z1 z2 z3 z4 z5 z6 z7 z8 z9 z10 z11 z12 z13 z14 z15 z16 z17 z18 z19 z20 z21 z22 z23 z24 z25 z26 z27 z28 → μ z1 z2 z3 z4 z5 z6 z7 z8 z9 z10 z11 z12 z13 z14 z15 z16 z17 z18 z19 z20 z21 z22 z23 z24 z25 z26 z27 z28 < μ x1 x2 x3 x4 x5 x6 x7 x8 x9 x10 x11 x12 x13 x14 x15 x16 x17 x18 x19 x20 x21 x22 x23 x24 x25 x26 x27 x28 → k z1 z2 z3 z4 z5 z6 z7 z8 z9 z10 z11 z12 z13 z14 z15 z16 z17 z18 z19 z20 z21 z22 z23 z24 z25 z26 z27 z28) → F k x1 x2 x3 x4 x5 x6 x7 x8 x9 x10 x11 x12 x13 x14 x15 x16 x17 x18 x19 x20 x21 x22 x23 x24 x25 x26 x27 x28) (x1 : B1) (x2 : B2) (x3 : B3) (x4 : B4) (x5 : B5) (x6 : B6) (x7 : B7) (x8 : B8) (x9 : B9) (x10 : B10) (x11 : B11) (x12 : B12) (x13 : B13) (x14 : B14) (x15 : B15) (x16 : B16) (x17 : B17) (x18 : B18) (x19 : B19) (x20 : B20) (x21 : B21) (x22 : B22) (x23 : B23) (x24 : B24) (x25 : B25) (x26 : B26) (x27 : B27) (x28 : B28) (h : I x1 x2 x3 x4 x5 x6 x7 x8 x9 x10 x11 x12 x13 x14 x15 x16 x17 x18 x19 x20 x21 x22 x23 x24 x25 x26 x27 x28) : ∃ n, sL28 F n x1 x2 x3 x4 x5 x6 x7 x8 x9 x10 x11 x12 x13 x14 x15 x16 x17 x18 x19 x20 x21 x22 x23 x24 x25 x26 x27 x28 := by
  have key : ∀ (n : Nat) (x1 : B1) (x2 : B2) (x3 : B3) (x4 : B4) (x5 : B5) (x6 : B6) (x7 : B7) (x8 : B8) (x9 : B9) (x10 : B10) (x11 : B11) (x12 : B12) (x13 : B13) (x14 : B14) (x15 : B15) (x16 : B16) (x17 : B17) (x18 : B18) (x19 : B19) (x20 : B20) (x21 : B21) (x22 : B22) (x23 : B23) (x24 : B24) (x25 : B25) (x26 : B26) (x27 : B27) (x28 : B28), I x1 x2 x3 x4 x5 x6 x7 x8 x9 x10 x11 x12 x13 x14 x15 x16 x17 x18 x19 x20 x21 x22 x23 x24 x25 x26 x27 x28 → μ x1 x2 x3 x4 x5 x6 x7 x8 x9 x10 x11 x12 x13 x14 x15 x16 x17 x18 x19 x20 x21 x22 x23 x24 x25 x26 x27 x28 < n → sL28 F n x1 x2 x3 x4 x5 x6 x7 x8 x9 x10 x11 x12 x13 x14 x15 x16 x17 x18 x19 x20 x21 x22 x23 x24 x25 x26 x27 x28 := by
    intro n
    induction n with
    | zero => intro x1 x2 x3 x4 x5 x6 x7 x8 x9 x10 x11 x12 x13 x14 x15 x16 x17 x18 x19 x20 x21 x22 x23 x24 x25 x26 x27 x28 _ h; exact absurd h (Nat.not_lt_zero _)
    | succ n ih => intro x1 x2 x3 x4 x5 x6 x7 x8 x9 x10 x11 x12 x13 x14 x15 x16 x17 x18 x19 x20 x21 x22 x23 x24 x25 x26 x27 x28 hI hn; exact step (sL28 F n) x1 x2 x3 x4 x5 x6 x7 x8 x9 x10 x11 x12 x13 x14 x15 x16 x17 x18 x19 x20 x21 x22 x23 x24 x25 x26 x27 x28 hI (fun z1 z2 z3 z4 z5 z6 z7 z8 z9 z10 z11 z12 z13 z14 z15 z16 z17 z18 z19 z20 z21 z22 z23 z24 z25 z26 z27 z28 hI2 h2 => ih z1 z2 z3 z4 z5 z6 z7 z8 z9 z10 z11 z12 z13 z14 z15 z16 z17 z18 z19 z20 z21 z22 z23 z24 z25 z26 z27 z28 hI2 (by omega))
  exact ⟨_, key _ x1 x2 x3 x4 x5 x6 x7 x8 x9 x10 x11 x12 x13 x14 x15 x16 x17 x18 x19 x20 x21 x22 x23 x24 x25 x26 x27 x28 h (Nat.lt_succ_self _)⟩
def sL29 {B1 B2 B3 B4 B5 B6 B7 B8 B9 B10 B11 B12 B13 B14 B15 B16 B17 B18 B19 B20 B21 B22 B23 B24 B25 B26 B27 B28 B29 : Type} (F : (B1 → B2 → B3 → B4 → B5 → B6 → B7 → B8 → B9 → B10 → B11 → B12 → B13 → B14 → B15 → B16 → B17 → B18 → B19 → B20 → B21 → B22 → B23 → B24 → B25 → B26 → B27 → B28 → B29 → Prop) → B1 → B2 → B3 → B4 → B5 → B6 → B7 → B8 → B9 → B10 → B11 → B12 → B13 → B14 → B15 → B16 → B17 → B18 → B19 → B20 → B21 → B22 → B23 → B24 → B25 → B26 → B27 → B28 → B29 → Prop) : Nat → B1 → B2 → B3 → B4 → B5 → B6 → B7 → B8 → B9 → B10 → B11 → B12 → B13 → B14 → B15 → B16 → B17 → B18 → B19 → B20 → B21 → B22 → B23 → B24 → B25 → B26 → B27 → B28 → B29 → Prop
  | 0 => fun _ _ _ _ _ _ _ _ _ _ _ _ _ _ _ _ _ _ _ _ _ _ _ _ _ _ _ _ _ => False
  | n + 1 => F (sL29 F n)
theorem sL29_ind {B1 B2 B3 B4 B5 B6 B7 B8 B9 B10 B11 B12 B13 B14 B15 B16 B17 B18 B19 B20 B21 B22 B23 B24 B25 B26 B27 B28 B29 : Type} {F : (B1 → B2 → B3 → B4 → B5 → B6 → B7 → B8 → B9 → B10 → B11 → B12 → B13 → B14 → B15 → B16 → B17 → B18 → B19 → B20 → B21 → B22 → B23 → B24 → B25 → B26 → B27 → B28 → B29 → Prop) → B1 → B2 → B3 → B4 → B5 → B6 → B7 → B8 → B9 → B10 → B11 → B12 → B13 → B14 → B15 → B16 → B17 → B18 → B19 → B20 → B21 → B22 → B23 → B24 → B25 → B26 → B27 → B28 → B29 → Prop} (P : B1 → B2 → B3 → B4 → B5 → B6 → B7 → B8 → B9 → B10 → B11 → B12 → B13 → B14 → B15 → B16 → B17 → B18 → B19 → B20 → B21 → B22 → B23 → B24 → B25 → B26 → B27 → B28 → B29 → Prop) (step : ∀ k : B1 → B2 → B3 → B4 → B5 → B6 → B7 → B8 → B9 → B10 → B11 → B12 → B13 → B14 → B15 → B16 → B17 → B18 → B19 → B20 → B21 → B22 → B23 → B24 → B25 → B26 → B27 → B28 → B29 → Prop, (∀ (x1 : B1) (x2 : B2) (x3 : B3) (x4 : B4) (x5 : B5) (x6 : B6) (x7 : B7) (x8 : B8) (x9 : B9) (x10 : B10) (x11 : B11) (x12 : B12) (x13 : B13) (x14 : B14) (x15 : B15) (x16 : B16) (x17 : B17) (x18 : B18) (x19 : B19) (x20 : B20) (x21 : B21) (x22 : B22) (x23 : B23) (x24 : B24) (x25 : B25) (x26 : B26) (x27 : B27) (x28 : B28) (x29 : B29), k x1 x2 x3 x4 x5 x6 x7 x8 x9 x10 x11 x12 x13 x14 x15 x16 x17 x18 x19 x20 x21 x22 x23 x24 x25 x26 x27 x28 x29 → P x1 x2 x3 x4 x5 x6 x7 x8 x9 x10 x11 x12 x13 x14 x15 x16 x17 x18 x19 x20 x21 x22 x23 x24 x25 x26 x27 x28 x29) → ∀ (x1 : B1) (x2 : B2) (x3 : B3) (x4 : B4) (x5 : B5) (x6 : B6) (x7 : B7) (x8 : B8) (x9 : B9) (x10 : B10) (x11 : B11) (x12 : B12) (x13 : B13) (x14 : B14) (x15 : B15) (x16 : B16) (x17 : B17) (x18 : B18) (x19 : B19) (x20 : B20) (x21 : B21) (x22 : B22) (x23 : B23) (x24 : B24) (x25 : B25) (x26 : B26) (x27 : B27) (x28 : B28) (x29 : B29), F k x1 x2 x3 x4 x5 x6 x7 x8 x9 x10 x11 x12 x13 x14 x15 x16 x17 x18 x19 x20 x21 x22 x23 x24 x25 x26 x27 x28 x29 → P x1 x2 x3 x4 x5 x6 x7 x8 x9 x10 x11 x12 x13 x14 x15 x16 x17 x18 x19 x20 x21 x22 x23 x24 x25 x26 x27 x28 x29) : ∀ (n : Nat) (x1 : B1) (x2 : B2) (x3 : B3) (x4 : B4) (x5 : B5) (x6 : B6) (x7 : B7) (x8 : B8) (x9 : B9) (x10 : B10) (x11 : B11) (x12 : B12) (x13 : B13) (x14 : B14) (x15 : B15) (x16 : B16) (x17 : B17) (x18 : B18) (x19 : B19) (x20 : B20) (x21 : B21) (x22 : B22) (x23 : B23) (x24 : B24) (x25 : B25) (x26 : B26) (x27 : B27) (x28 : B28) (x29 : B29), sL29 F n x1 x2 x3 x4 x5 x6 x7 x8 x9 x10 x11 x12 x13 x14 x15 x16 x17 x18 x19 x20 x21 x22 x23 x24 x25 x26 x27 x28 x29 → P x1 x2 x3 x4 x5 x6 x7 x8 x9 x10 x11 x12 x13 x14 x15 x16 x17 x18 x19 x20 x21 x22 x23 x24 x25 x26 x27 x28 x29
  | 0, _, _, _, _, _, _, _, _, _, _, _, _, _, _, _, _, _, _, _, _, _, _, _, _, _, _, _, _, _ => fun h => h.elim
  | n + 1, x1, x2, x3, x4, x5, x6, x7, x8, x9, x10, x11, x12, x13, x14, x15, x16, x17, x18, x19, x20, x21, x22, x23, x24, x25, x26, x27, x28, x29 => fun h => step (sL29 F n) (sL29_ind P step n) x1 x2 x3 x4 x5 x6 x7 x8 x9 x10 x11 x12 x13 x14 x15 x16 x17 x18 x19 x20 x21 x22 x23 x24 x25 x26 x27 x28 x29 h
theorem sL29_of {B1 B2 B3 B4 B5 B6 B7 B8 B9 B10 B11 B12 B13 B14 B15 B16 B17 B18 B19 B20 B21 B22 B23 B24 B25 B26 B27 B28 B29 : Type} {F : (B1 → B2 → B3 → B4 → B5 → B6 → B7 → B8 → B9 → B10 → B11 → B12 → B13 → B14 → B15 → B16 → B17 → B18 → B19 → B20 → B21 → B22 → B23 → B24 → B25 → B26 → B27 → B28 → B29 → Prop) → B1 → B2 → B3 → B4 → B5 → B6 → B7 → B8 → B9 → B10 → B11 → B12 → B13 → B14 → B15 → B16 → B17 → B18 → B19 → B20 → B21 → B22 → B23 → B24 → B25 → B26 → B27 → B28 → B29 → Prop} (I : B1 → B2 → B3 → B4 → B5 → B6 → B7 → B8 → B9 → B10 → B11 → B12 → B13 → B14 → B15 → B16 → B17 → B18 → B19 → B20 → B21 → B22 → B23 → B24 → B25 → B26 → B27 → B28 → B29 → Prop) (μ : B1 → B2 → B3 → B4 → B5 → B6 → B7 → B8 → B9 → B10 → B11 → B12 → B13 → B14 → B15 → B16 → B17 → B18 → B19 → B20 → B21 → B22 → B23 → B24 → B25 → B26 → B27 → B28 → B29 → Nat) (step : ∀ (k : B1 → B2 → B3 → B4 → B5 → B6 → B7 → B8 → B9 → B10 → B11 → B12 → B13 → B14 → B15 → B16 → B17 → B18 → B19 → B20 → B21 → B22 → B23 → B24 → B25 → B26 → B27 → B28 → B29 → Prop) (x1 : B1) (x2 : B2) (x3 : B3) (x4 : B4) (x5 : B5) (x6 : B6) (x7 : B7) (x8 : B8) (x9 : B9) (x10 : B10) (x11 : B11) (x12 : B12) (x13 : B13) (x14 : B14) (x15 : B15) (x16 : B16) (x17 : B17) (x18 : B18) (x19 : B19) (x20 : B20) (x21 : B21) (x22 : B22) (x23 : B23) (x24 : B24) (x25 : B25) (x26 : B26) (x27 : B27) (x28 : B28) (x29 : B29), I x1 x2 x3 x4 x5 x6 x7 x8 x9 x10 x11 x12 x13 x14 x15 x16 x17 x18 x19 x20 x21 x22 x23 x24 x25 x26 x27 x28 x29 → (∀ (z1 : B1) (z2 : B2) (z3 : B3) (z4 : B4) (z5 : B5) (z6 : B6) (z7 : B7) (z8 : B8) (z9 : B9) (z10 : B10) (z11 : B11) (z12 : B12) (z13 : B13) (z14 : B14) (z15 : B15) (z16 : B16) (z17 : B17) (z18 : B18) (z19 : B19) (z20 : B20) (z21 : B21) (z22 : B22) (z23 : B23) (z24 : B24) (z25 : B25) (z26 : B26) (z27 : B27) (z28 : B28) (z29 : B29), I z1 z2 z3 z4 z5 z6 z7 z8 z9 z10 z11 z12 z13 z14 z15 z16 z17 z18 z19 z20 z21 z22 z23 z24 z25 z26 z27 z28 z29 → μ z1 z2 z3 z4 z5 z6 z7 z8 z9 z10 z11 z12 z13 z14 z15 z16 z17 z18 z19 z20 z21 z22 z23 z24 z25 z26 z27 z28 z29 < μ x1 x2 x3 x4 x5 x6 x7 x8 x9 x10 x11 x12 x13 x14 x15 x16 x17 x18 x19 x20 x21 x22 x23 x24 x25 x26 x27 x28 x29 → k z1 z2 z3 z4 z5 z6 z7 z8 z9 z10 z11 z12 z13 z14 z15 z16 z17 z18 z19 z20 z21 z22 z23 z24 z25 z26 z27 z28 z29) → F k x1 x2 x3 x4 x5 x6 x7 x8 x9 x10 x11 x12 x13 x14 x15 x16 x17 x18 x19 x20 x21 x22 x23 x24 x25 x26 x27 x28 x29) (x1 : B1) (x2 : B2) (x3 : B3) (x4 : B4) (x5 : B5) (x6 : B6) (x7 : B7) (x8 : B8) (x9 : B9) (x10 : B10) (x11 : B11) (x12 : B12) (x13 : B13) (x14 : B14) (x15 : B15) (x16 : B16) (x17 : B17) (x18 : B18) (x19 : B19) (x20 : B20) (x21 : B21) (x22 : B22) (x23 : B23) (x24 : B24) (x25 : B25) (x26 : B26) (x27 : B27) (x28 : B28) (x29 : B29) (h : I x1 x2 x3 x4 x5 x6 x7 x8 x9 x10 x11 x12 x13 x14 x15 x16 x17 x18 x19 x20 x21 x22 x23 x24 x25 x26 x27 x28 x29) : ∃ n, sL29 F n x1 x2 x3 x4 x5 x6 x7 x8 x9 x10 x11 x12 x13 x14 x15 x16 x17 x18 x19 x20 x21 x22 x23 x24 x25 x26 x27 x28 x29 := by
  have key : ∀ (n : Nat) (x1 : B1) (x2 : B2) (x3 : B3) (x4 : B4) (x5 : B5) (x6 : B6) (x7 : B7) (x8 : B8) (x9 : B9) (x10 : B10) (x11 : B11) (x12 : B12) (x13 : B13) (x14 : B14) (x15 : B15) (x16 : B16) (x17 : B17) (x18 : B18) (x19 : B19) (x20 : B20) (x21 : B21) (x22 : B22) (x23 : B23) (x24 : B24) (x25 : B25) (x26 : B26) (x27 : B27) (x28 : B28) (x29 : B29), I x1 x2 x3 x4 x5 x6 x7 x8 x9 x10 x11 x12 x13 x14 x15 x16 x17 x18 x19 x20 x21 x22 x23 x24 x25 x26 x27 x28 x29 → μ x1 x2 x3 x4 x5 x6 x7 x8 x9 x10 x11 x12 x13 x14 x15 x16 x17 x18 x19 x20 x21 x22 x23 x24 x25 x26 x27 x28 x29 < n → sL29 F n x1 x2 x3 x4 x5 x6 x7 x8 x9 x10 x11 x12 x13 x14 x15 x16 x17 x18 x19 x20 x21 x22 x23 x24 x25 x26 x27 x28 x29 := by
    intro n
    induction n with
    | zero => intro x1 x2 x3 x4 x5 x6 x7 x8 x9 x10 x11 x12 x13 x14 x15 x16 x17 x18 x19 x20 x21 x22 x23 x24 x25 x26 x27 x28 x29 _ h; exact absurd h (Nat.not_lt_zero _)
    | succ n ih => intro x1 x2 x3 x4 x5 x6 x7 x8 x9 x10 x11 x12 x13 x14 x15 x16 x17 x18 x19 x20 x21 x22 x23 x24 x25 x26 x27 x28 x29 hI hn; exact step (sL29 F n) x1 x2 x3 x4 x5 x6 x7 x8 x9 x10 x11 x12 x13 x14 x15 x16 x17 x18 x19 x20 x21 x22 x23 x24 x25 x26 x27 x28 x29 hI (fun z1 z2 z3 z4 z5 z6 z7 z8 z9 z10 z11 z12 z13 z14 z15 z16 z17 z18 z19 z20 z21 z22 z23 z24 z25 z26 z27 z28 z29 hI2 h2 => ih z1 z2 z3 z4 z5 z6 z7 z8 z9 z10 z11 z12 z13 z14 z15 z16 z17 z18 z19 z20 z21 z22 z23 z24 z25 z26 z27 z28 z29 hI2 (by omega))
  exact ⟨_, key _ x1 x2 x3 x4 x5 x6 x7 x8 x9 x10 x11 x12 x13 x14 x15 x16 x17 x18 x19 x20 x21 x22 x23 x24 x25 x26 x27 x28 x29 h (Nat.lt_succ_self _)⟩
def sL30 {B1 B2 B3 B4 B5 B6 B7 B8 B9 B10 B11 B12 B13 B14 B15 B16 B17 B18 B19 B20 B21 B22 B23 B24 B25 B26 B27 B28 B29 B30 : Type} (F : (B1 → B2 → B3 → B4 → B5 → B6 → B7 → B8 → B9 → B10 → B11 → B12 → B13 → B14 → B15 → B16 → B17 → B18 → B19 → B20 → B21 → B22 → B23 → B24 → B25 → B26 → B27 → B28 → B29 → B30 → Prop) → B1 → B2 → B3 → B4 → B5 → B6 → B7 → B8 → B9 → B10 → B11 → B12 → B13 → B14 → B15 → B16 → B17 → B18 → B19 → B20 → B21 → B22 → B23 → B24 → B25 → B26 → B27 → B28 → B29 → B30 → Prop) : Nat → B1 → B2 → B3 → B4 → B5 → B6 → B7 → B8 → B9 → B10 → B11 → B12 → B13 → B14 → B15 → B16 → B17 → B18 → B19 → B20 → B21 → B22 → B23 → B24 → B25 → B26 → B27 → B28 → B29 → B30 → Prop
  | 0 => fun _ _ _ _ _ _ _ _ _ _ _ _ _ _ _ _ _ _ _ _ _ _ _ _ _ _ _ _ _ _ => False
  | n + 1 => F (sL30 F n)
theorem sL30_ind {B1 B2 B3 B4 B5 B6 B7 B8 B9 B10 B11 B12 B13 B14 B15 B16 B17 B18 B19 B20 B21 B22 B23 B24 B25 B26 B27 B28 B29 B30 : Type} {F : (B1 → B2 → B3 → B4 → B5 → B6 → B7 → B8 → B9 → B10 → B11 → B12 → B13 → B14 → B15 → B16 → B17 → B18 → B19 → B20 → B21 → B22 → B23 → B24 → B25 → B26 → B27 → B28 → B29 → B30 → Prop) → B1 → B2 → B3 → B4 → B5 → B6 → B7 → B8 → B9 → B10 → B11 → B12 → B13 → B14 → B15 → B16 → B17 → B18 → B19 → B20 → B21 → B22 → B23 → B24 → B25 → B26 → B27 → B28 → B29 → B30 → Prop} (P : B1 → B2 → B3 → B4 → B5 → B6 → B7 → B8 → B9 → B10 → B11 → B12 → B13 → B14 → B15 → B16 → B17 → B18 → B19 → B20 → B21 → B22 → B23 → B24 → B25 → B26 → B27 → B28 → B29 → B30 → Prop) (step : ∀ k : B1 → B2 → B3 → B4 → B5 → B6 → B7 → B8 → B9 → B10 → B11 → B12 → B13 → B14 → B15 → B16 → B17 → B18 → B19 → B20 → B21 → B22 → B23 → B24 → B25 → B26 → B27 → B28 → B29 → B30 → Prop, (∀ (x1 : B1) (x2 : B2) (x3 : B3) (x4 : B4) (x5 : B5) (x6 : B6) (x7 : B7) (x8 : B8) (x9 : B9) (x10 : B10) (x11 : B11) (x12 : B12) (x13 : B13) (x14 : B14) (x15 : B15) (x16 : B16) (x17 : B17) (x18 : B18) (x19 : B19) (x20 : B20) (x21 : B21) (x22 : B22) (x23 : B23) (x24 : B24) (x25 : B25) (x26 : B26) (x27 : B27) (x28 : B28) (x29 : B29) (x30 : B30), k x1 x2 x3 x4 x5 x6 x7 x8 x9 x10 x11 x12 x13 x14 x15 x16 x17 x18 x19 x20 x21 x22 x23 x24 x25 x26 x27 x28 x29 x30 → P x1 x2 x3 x4 x5 x6 x7 x8 x9 x10 x11 x12 x13 x14 x15 x16 x17 x18 x19 x20 x21 x22 x23 x24 x25 x26 x27 x28 x29 x30) → ∀ (x1 : B1) (x2 : B2) (x3 : B3) (x4 : B4) (x5 : B5) (x6 : B6) (x7 : B7) (x8 : B8) (x9 : B9) (x10 : B10) (x11 : B11) (x12 : B12) (x13 : B13) (x14 : B14) (x15 : B15) (x16 : B16) (x17 : B17) (x18 : B18) (x19 : B19) (x20 : B20) (x21 : B21) (x22 : B22) (x23 : B23) (x24 : B24) (x25 : B25) (x26 : B26) (x27 : B27) (x28 : B28) (x29 : B29) (x30 : B30), F k x1 x2 x3 x4 x5 x6 x7 x8 x9 x10 x11 x12 x13 x14 x15 x16 x17 x18 x19 x20 x21 x22 x23 x24 x25 x26 x27 x28 x29 x30 → P x1 x2 x3 x4 x5 x6 x7 x8 x9 x10 x11 x12 x13 x14 x15 x16 x17 x18 x19 x20 x21 x22 x23 x24 x25 x26 x27 x28 x29 x30) : ∀ (n : Nat) (x1 : B1) (x2 : B2) (x3 : B3) (x4 : B4) (x5 : B5) (x6 : B6) (x7 : B7) (x8 : B8) (x9 : B9) (x10 : B10) (x11 : B11) (x12 : B12) (x13 : B13) (x14 : B14) (x15 : B15) (x16 : B16) (x17 : B17) (x18 : B18) (x19 : B19) (x20 : B20) (x21 : B21) (x22 : B22) (x23 : B23) (x24 : B24) (x25 : B25) (x26 : B26) (x27 : B27) (x28 : B28) (x29 : B29) (x30 : B30), sL30 F n x1 x2 x3 x4 x5 x6 x7 x8 x9 x10 x11 x12 x13 x14 x15 x16 x17 x18 x19 x20 x21 x22 x23 x24 x25 x26 x27 x28 x29 x30 → P x1 x2 x3 x4 x5 x6 x7 x8 x9 x10 x11 x12 x13 x14 x15 x16 x17 x18 x19 x20 x21 x22 x23 x24 x25 x26 x27 x28 x29 x30
  | 0, _, _, _, _, _, _, _, _, _, _, _, _, _, _, _, _, _, _, _, _, _, _, _, _, _, _, _, _, _, _ => fun h => h.elim
  | n + 1, x1, x2, x3, x4, x5, x6, x7, x8, x9, x10, x11, x12, x13, x14, x15, x16, x17, x18, x19, x20, x21, x22, x23, x24, x25, x26, x27, x28, x29, x30 => fun h => step (sL30 F n) (sL30_ind P step n) x1 x2 x3 x4 x5 x6 x7 x8 x9 x10 x11 x12 x13 x14 x15 x16 x17 x18 x19 x20 x21 x22 x23 x24 x25 x26 x27 x28 x29 x30 h
theorem sL30_of {B1 B2 B3 B4 B5 B6 B7 B8 B9 B10 B11 B12 B13 B14 B15 B16 B17 B18 B19 B20 B21 B22 B23 B24 B25 B26 B27 B28 B29 B30 : Type} {F : (B1 → B2 → B3 → B4 → B5 → B6 → B7 → B8 → B9 → B10 → B11 → B12 → B13 → B14 → B15 → B16 → B17 → B18 → B19 → B20 → B21 → B22 → B23 → B24 → B25 → B26 → B27 → B28 → B29 → B30 → Prop) → B1 → B2 → B3 → B4 → B5 → B6 → B7 → B8 → B9 → B10 → B11 → B12 → B13 → B14 → B15 → B16 → B17 → B18 → B19 → B20 → B21 → B22 → B23 → B24 → B25 → B26 → B27 → B28 → B29 → B30 → Prop} (I : B1 → B2 → B3 → B4 → B5 → B6 → B7 → B8 → B9 → B10 → B11 → B12 → B13 → B14 → B15 → B16 → B17 → B18 → B19 → B20 → B21 → B22 → B23 → B24 → B25 → B26 → B27 → B28 → B29 → B30 → Prop) (μ : B1 → B2 → B3 → B4 → B5 → B6 → B7 → B8 → B9 → B10 → B11 → B12 → B13 → B14 → B15 → B16 → B17 → B18 → B19 → B20 → B21 → B22 → B23 → B24 → B25 → B26 → B27 → B28 → B29 → B30 → Nat) (step : ∀ (k : B1 → B2 → B3 → B4 → B5 → B6 → B7 → B8 → B9 → B10 → B11 → B12 → B13 → B14 → B15 → B16 → B17 → B18 → B19 → B20 → B21 → B22 → B23 → B24 → B25 → B26 → B27 → B28 → B29 → B30 → Prop) (x1 : B1) (x2 : B2) (x3 : B3) (x4 : B4) (x5 : B5) (x6 : B6) (x7 : B7) (x8 : B8) (x9 : B9) (x10 : B10) (x11 : B11) (x12 : B12) (x13 : B13) (x14 : B14) (x15 : B15) (x16 : B16) (x17 : B17) (x18 : B18) (x19 : B19) (x20 : B20) (x21 : B21) (x22 : B22) (x23 : B23) (x24 : B24) (x25 : B25) (x26 : B26) (x27 : B27) (x28 : B28) (x29 : B29) (x30 : B30), I x1 x2 x3 x4 x5 x6 x7 x8 x9 x10 x11 x12 x13 x14 x15 x16 x17 x18 x19 x20 x21 x22 x23 x24 x25 x26 x27 x28 x29 x30 → (∀ (z1 : B1) (z2 : B2) (z3 : B3) (z4 : B4) (z5 : B5) (z6 : B6) (z7 : B7) (z8 : B8) (z9 : B9) (z10 : B10) (z11 : B11) (z12 : B12) (z13 : B13) (z14 : B14) (z15 : B15) (z16 : B16) (z17 : B17) (z18 : B18) (z19 : B19) (z20 : B20) (z21 : B21) (z22 : B22) (z23 : B23) (z24 : B24) (z25 : B25) (z26 : B26) (z27 : B27) (z28 : B28) (z29 : B29) (z30 : B30), I z1 z2 z3 z4 z5 z6 z7 z8 z9 z10 z11 z12 z13 z14 z15 z16 z17 z18 z19 z20 z21 z22 z23 z24 z25 z26 z27 z28 z29 z30 → μ z1 z2 z3 z4 z5 z6 z7 z8 z9 z10 z11 z12 z13 z14 z15 z16 z17 z18 z19 z20 z21 z22 z23 z24 z25 z26 z27 z28 z29 z30 < μ x1 x2 x3 x4 x5 x6 x7 x8 x9 x10 x11 x12 x13 x14 x15 x16 x17 x18 x19 x20 x21 x22 x23 x24 x25 x26 x27 x28 x29 x30 → k z1 z2 z3 z4 z5 z6 z7 z8 z9 z10 z11 z12 z13 z14 z15 z16 z17 z18 z19 z20 z21 z22 z23 z24 z25 z26 z27 z28 z29 z30) → F k x1 x2 x3 x4 x5 x6 x7 x8 x9 x10 x11 x12 x13 x14 x15 x16 x17 x18 x19 x20 x21 x22 x23 x24 x25 x26 x27 x28 x29 x30) (x1 : B1) (x2 : B2) (x3 : B3) (x4 : B4) (x5 : B5) (x6 : B6) (x7 : B7) (x8 : B8) (x9 : B9) (x10 : B10) (x11 : B11) (x12 : B12) (x13 : B13) (x14 : B14) (x15 : B15) (x16 : B16) (x17 : B17) (x18 : B18) (x19 : B19) (x20 : B20) (x21 : B21) (x22 : B22) (x23 : B23) (x24 : B24) (x25 : B25) (x26 : B26) (x27 : B27) (x28 : B28) (x29 : B29) (x30 : B30) (h : I x1 x2 x3 x4 x5 x6 x7 x8 x9 x10 x11 x12 x13 x14 x15 x16 x17 x18 x19 x20 x21 x22 x23 x24 x25 x26 x27 x28 x29 x30) : ∃ n, sL30 F n x1 x2 x3 x4 x5 x6 x7 x8 x9 x10 x11 x12 x13 x14 x15 x16 x17 x18 x19 x20 x21 x22 x23 x24 x25 x26 x27 x28 x29 x30 := by
  have key : ∀ (n : Nat) (x1 : B1) (x2 : B2) (x3 : B3) (x4 : B4) (x5 : B5) (x6 : B6) (x7 : B7) (x8 : B8) (x9 : B9) (x10 : B10) (x11 : B11) (x12 : B12) (x13 : B13) (x14 : B14) (x15 : B15) (x16 : B16) (x17 : B17) (x18 : B18) (x19 : B19) (x20 : B20) (x21 : B21) (x22 : B22) (x23 : B23) (x24 : B24) (x25 : B25) (x26 : B26) (x27 : B27) (x28 : B28) (x29 : B29) (x30 : B30), I x1 x2 x3 x4 x5 x6 x7 x8 x9 x10 x11 x12 x13 x14 x15 x16 x17 x18 x19 x20 x21 x22 x23 x24 x25 x26 x27 x28 x29 x30 → μ x1 x2 x3 x4 x5 x6 x7 x8 x9 x10 x11 x12 x13 x14 x15 x16 x17 x18 x19 x20 x21 x22 x23 x24 x25 x26 x27 x28 x29 x30 < n → sL30 F n x1 x2 x3 x4 x5 x6 x7 x8 x9 x10 x11 x12 x13 x14 x15 x16 x17 x18 x19 x20 x21 x22 x23 x24 x25 x26 x27 x28 x29 x30 := by
    intro n
    induction n with
    | zero => intro x1 x2 x3 x4 x5 x6 x7 x8 x9 x10 x11 x12 x13 x14 x15 x16 x17 x18 x19 x20 x21 x22 x23 x24 x25 x26 x27 x28 x29 x30 _ h; exact absurd h (Nat.not_lt_zero _)
    | succ n ih => intro x1 x2 x3 x4 x5 x6 x7 x8 x9 x10 x11 x12 x13 x14 x15 x16 x17 x18 x19 x20 x21 x22 x23 x24 x25 x26 x27 x28 x29 x30 hI hn; exact step (sL30 F n) x1 x2 x3 x4 x5 x6 x7 x8 x9 x10 x11 x12 x13 x14 x15 x16 x17 x18 x19 x20 x21 x22 x23 x24 x25 x26 x27 x28 x29 x30 hI (fun z1 z2 z3 z4 z5 z6 z7 z8 z9 z10 z11 z12 z13 z14 z15 z16 z17 z18 z19 z20 z21 z22 z23 z24 z25 z26 z27 z28 z29 z30 hI2 h2 => ih z1 z2 z3 z4 z5 z6 z7 z8 z9 z10 z11 z12 z13 z14 z15 z16 z17 z18 z19 z20 z21 z22 z23 z24 z25 z26 z27 z28 z29 z30 hI2 (by omega))
  exact ⟨_, key _ x1 x2 x3 x4 x5 x6 x7 x8 x9 x10 x11 x12 x13 x14 x15 x16 x17 x18 x19 x20 x21 x22 x23 x24 x25 x26 x27 x28 x29 x30 h (Nat.lt_succ_self _)⟩
def jn0 (C : Prop) (K : (Prop) → Prop) : Prop := K C
theorem jn0_use {C : Prop} {K : (Prop) → Prop} {G : Prop} (P : Prop) (h : jn0 C K) (hc : (C ) → P ) (hk : ∀ J : Prop, ((J ) → P ) → K J → G) : G := hk C hc h
def jn1 {B1 : Type} (C : B1 → Prop) (K : (B1 → Prop) → Prop) : Prop := K C
theorem jn1_use {B1 : Type} {C : B1 → Prop} {K : (B1 → Prop) → Prop} {G : Prop} (P : B1 → Prop) (h : jn1 C K) (hc : ∀ (x1 : B1), (C x1) → P x1) (hk : ∀ J : B1 → Prop, (∀ (x1 : B1), (J x1) → P x1) → K J → G) : G := hk C hc h
def jn2 {B1 B2 : Type} (C : B1 → B2 → Prop) (K : (B1 → B2 → Prop) → Prop) : Prop := K C
theorem jn2_use {B1 B2 : Type} {C : B1 → B2 → Prop} {K : (B1 → B2 → Prop) → Prop} {G : Prop} (P : B1 → B2 → Prop) (h : jn2 C K) (hc : ∀ (x1 : B1) (x2 : B2), (C x1 x2) → P x1 x2) (hk : ∀ J : B1 → B2 → Prop, (∀ (x1 : B1) (x2 : B2), (J x1 x2) → P x1 x2) → K J → G) : G := hk C hc h
def jn3 {B1 B2 B3 : Type} (C : B1 → B2 → B3 → Prop) (K : (B1 → B2 → B3 → Prop) → Prop) : Prop := K C
theorem jn3_use {B1 B2 B3 : Type} {C : B1 → B2 → B3 → Prop} {K : (B1 → B2 → B3 → Prop) → Prop} {G : Prop} (P : B1 → B2 → B3 → Prop) (h : jn3 C K) (hc : ∀ (x1 : B1) (x2 : B2) (x3 : B3), (C x1 x2 x3) → P x1 x2 x3) (hk : ∀ J : B1 → B2 → B3 → Prop, (∀ (x1 : B1) (x2 : B2) (x3 : B3), (J x1 x2 x3) → P x1 x2 x3) → K J → G) : G := hk C hc h
def jn4 {B1 B2 B3 B4 : Type} (C : B1 → B2 → B3 → B4 → Prop) (K : (B1 → B2 → B3 → B4 → Prop) → Prop) : Prop := K C
theorem jn4_use {B1 B2 B3 B4 : Type} {C : B1 → B2 → B3 → B4 → Prop} {K : (B1 → B2 → B3 → B4 → Prop) → Prop} {G : Prop} (P : B1 → B2 → B3 → B4 → Prop) (h : jn4 C K) (hc : ∀ (x1 : B1) (x2 : B2) (x3 : B3) (x4 : B4), (C x1 x2 x3 x4) → P x1 x2 x3 x4) (hk : ∀ J : B1 → B2 → B3 → B4 → Prop, (∀ (x1 : B1) (x2 : B2) (x3 : B3) (x4 : B4), (J x1 x2 x3 x4) → P x1 x2 x3 x4) → K J → G) : G := hk C hc h
def jn5 {B1 B2 B3 B4 B5 : Type} (C : B1 → B2 → B3 → B4 → B5 → Prop) (K : (B1 → B2 → B3 → B4 → B5 → Prop) → Prop) : Prop := K C
theorem jn5_use {B1 B2 B3 B4 B5 : Type} {C : B1 → B2 → B3 → B4 → B5 → Prop} {K : (B1 → B2 → B3 → B4 → B5 → Prop) → Prop} {G : Prop} (P : B1 → B2 → B3 → B4 → B5 → Prop) (h : jn5 C K) (hc : ∀ (x1 : B1) (x2 : B2) (x3 : B3) (x4 : B4) (x5 : B5), (C x1 x2 x3 x4 x5) → P x1 x2 x3 x4 x5) (hk : ∀ J : B1 → B2 → B3 → B4 → B5 → Prop, (∀ (x1 : B1) (x2 : B2) (x3 : B3) (x4 : B4) (x5 : B5), (J x1 x2 x3 x4 x5) → P x1 x2 x3 x4 x5) → K J → G) : G := hk C hc h
def jn6 {B1 B2 B3 B4 B5 B6 : Type} (C : B1 → B2 → B3 → B4 → B5 → B6 → Prop) (K : (B1 → B2 → B3 → B4 → B5 → B6 → Prop) → Prop) : Prop := K C
theorem jn6_use {B1 B2 B3 B4 B5 B6 : Type} {C : B1 → B2 → B3 → B4 → B5 → B6 → Prop} {K : (B1 → B2 → B3 → B4 → B5 → B6 → Prop) → Prop} {G : Prop} (P : B1 → B2 → B3 → B4 → B5 → B6 → Prop) (h : jn6 C K) (hc : ∀ (x1 : B1) (x2 : B2) (x3 : B3) (x4 : B4) (x5 : B5) (x6 : B6), (C x1 x2 x3 x4 x5 x6) → P x1 x2 x3 x4 x5 x6) (hk : ∀ J : B1 → B2 → B3 → B4 → B5 → B6 → Prop, (∀ (x1 : B1) (x2 : B2) (x3 : B3) (x4 : B4) (x5 : B5) (x6 : B6), (J x1 x2 x3 x4 x5 x6) → P x1 x2 x3 x4 x5 x6) → K J → G) : G := hk C hc h
def jn7 {B1 B2 B3 B4 B5 B6 B7 : Type} (C : B1 → B2 → B3 → B4 → B5 → B6 → B7 → Prop) (K : (B1 → B2 → B3 → B4 → B5 → B6 → B7 → Prop) → Prop) : Prop := K C
theorem jn7_use {B1 B2 B3 B4 B5 B6 B7 : Type} {C : B1 → B2 → B3 → B4 → B5 → B6 → B7 → Prop} {K : (B1 → B2 → B3 → B4 → B5 → B6 → B7 → Prop) → Prop} {G : Prop} (P : B1 → B2 → B3 → B4 → B5 → B6 → B7 → Prop) (h : jn7 C K) (hc : ∀ (x1 : B1) (x2 : B2) (x3 : B3) (x4 : B4) (x5 : B5) (x6 : B6) (x7 : B7), (C x1 x2 x3 x4 x5 x6 x7) → P x1 x2 x3 x4 x5 x6 x7) (hk : ∀ J : B1 → B2 → B3 → B4 → B5 → B6 → B7 → Prop, (∀ (x1 : B1) (x2 : B2) (x3 : B3) (x4 : B4) (x5 : B5) (x6 : B6) (x7 : B7), (J x1 x2 x3 x4 x5 x6 x7) → P x1 x2 x3 x4 x5 x6 x7) → K J → G) : G := hk C hc h
def jn8 {B1 B2 B3 B4 B5 B6 B7 B8 : Type} (C : B1 → B2 → B3 → B4 → B5 → B6 → B7 → B8 → Prop) (K : (B1 → B2 → B3 → B4 → B5 → B6 → B7 → B8 → Prop) → Prop) : Prop := K C
theorem jn8_use {B1 B2 B3 B4 B5 B6 B7 B8 : Type} {C : B1 → B2 → B3 → B4 → B5 → B6 → B7 → B8 → Prop} {K : (B1 → B2 → B3 → B4 → B5 → B6 → B7 → B8 → Prop) → Prop} {G : Prop} (P : B1 → B2 → B3 → B4 → B5 → B6 → B7 → B8 → Prop) (h : jn8 C K) (hc : ∀ (x1 : B1) (x2 : B2) (x3 : B3) (x4 : B4) (x5 : B5) (x6 : B6) (x7 : B7) (x8 : B8), (C x1 x2 x3 x4 x5 x6 x7 x8) → P x1 x2 x3 x4 x5 x6 x7 x8) (hk : ∀ J : B1 → B2 → B3 → B4 → B5 → B6 → B7 → B8 → Prop, (∀ (x1 : B1) (x2 : B2) (x3 : B3) (x4 : B4) (x5 : B5) (x6 : B6) (x7 : B7) (x8 : B8), (J x1 x2 x3 x4 x5 x6 x7 x8) → P x1 x2 x3 x4 x5 x6 x7 x8) → K J → G) : G := hk C hc h
def jn9 {B1 B2 B3 B4 B5 B6 B7 B8 B9 : Type} (C : B1 → B2 → B3 → B4 → B5 → B6 → B7 → B8 → B9 → Prop) (K : (B1 → B2 → B3 → B4 → B5 → B6 → B7 → B8 → B9 → Prop) → Prop) : Prop := K C
theorem jn9_use {B1 B2 B3 B4 B5 B6 B7 B8 B9 : Type} {C : B1 → B2 → B3 → B4 → B5 → B6 → B7 → B8 → B9 → Prop} {K : (B1 → B2 → B3 → B4 → B5 → B6 → B7 → B8 → B9 → Prop) → Prop} {G : Prop} (P : B1 → B2 → B3 → B4 → B5 → B6 → B7 → B8 → B9 → Prop) (h : jn9 C K) (hc : ∀ (x1 : B1) (x2 : B2) (x3 : B3) (x4 : B4) (x5 : B5) (x6 : B6) (x7 : B7) (x8 : B8) (x9 : B9), (C x1 x2 x3 x4 x5 x6 x7 x8 x9) → P x1 x2 x3 x4 x5 x6 x7 x8 x9) (hk : ∀ J : B1 → B2 → B3 → B4 → B5 → B6 → B7 → B8 → B9 → Prop, (∀ (x1 : B1) (x2 : B2) (x3 : B3) (x4 : B4) (x5 : B5) (x6 : B6) (x7 : B7) (x8 : B8) (x9 : B9), (J x1 x2 x3 x4 x5 x6 x7 x8 x9) → P x1 x2 x3 x4 x5 x6 x7 x8 x9) → K J → G) : G := hk C hc h
def jn10 {B1 B2 B3 B4 B5 B6 B7 B8 B9 B10 : Type} (C : B1 → B2 → B3 → B4 → B5 → B6 → B7 → B8 → B9 → B10 → Prop) (K : (B1 → B2 → B3 → B4 → B5 → B6 → B7 → B8 → B9 → B10 → Prop) → Prop) : Prop := K C
theorem jn10_use {B1 B2 B3 B4 B5 B6 B7 B8 B9 B10 : Type} {C : B1 → B2 → B3 → B4 → B5 → B6 → B7 → B8 → B9 → B10 → Prop} {K : (B1 → B2 → B3 → B4 → B5 → B6 → B7 → B8 → B9 → B10 → Prop) → Prop} {G : Prop} (P : B1 → B2 → B3 → B4 → B5 → B6 → B7 → B8 → B9 → B10 → Prop) (h : jn10 C K) (hc : ∀ (x1 : B1) (x2 : B2) (x3 : B3) (x4 : B4) (x5 : B5) (x6 : B6) (x7 : B7) (x8 : B8) (x9 : B9) (x10 : B10), (C x1 x2 x3 x4 x5 x6 x7 x8 x9 x10) → P x1 x2 x3 x4 x5 x6 x7 x8 x9 x10) (hk : ∀ J : B1 → B2 → B3 → B4 → B5 → B6 → B7 → B8 → B9 → B10 → Prop, (∀ (x1 : B1) (x2 : B2) (x3 : B3) (x4 : B4) (x5 : B5) (x6 : B6) (x7 : B7) (x8 : B8) (x9 : B9) (x10 : B10), (J x1 x2 x3 x4 x5 x6 x7 x8 x9 x10) → P x1 x2 x3 x4 x5 x6 x7 x8 x9 x10) → K J → G) : G := hk C hc h
def jn11 {B1 B2 B3 B4 B5 B6 B7 B8 B9 B10 B11 : Type} (C : B1 → B2 → B3 → B4 → B5 → B6 → B7 → B8 → B9 → B10 → B11 → Prop) (K : (B1 → B2 → B3 → B4 → B5 → B6 → B7 → B8 → B9 → B10 → B11 → Prop) → Prop) : Prop := K C
theorem jn11_use {B1 B2 B3 B4 B5 B6 B7 B8 B9 B10 B11 : Type} {C : B1 → B2 → B3 → B4 → B5 → B6 → B7 → B8 → B9 → B10 → B11 → Prop} {K : (B1 → B2 → B3 → B4 → B5 → B6 → B7 → B8 → B9 → B10 → B11 → Prop) → Prop} {G : Prop} (P : B1 → B2 → B3 → B4 → B5 → B6 → B7 → B8 → B9 → B10 → B11 → Prop) (h : jn11 C K) (hc : ∀ (x1 : B1) (x2 : B2) (x3 : B3) (x4 : B4) (x5 : B5) (x6 : B6) (x7 : B7) (x8 : B8) (x9 : B9) (x10 : B10) (x11 : B11), (C x1 x2 x3 x4 x5 x6 x7 x8 x9 x10 x11) → P x1 x2 x3 x4 x5 x6 x7 x8 x9 x10 x11) (hk : ∀ J : B1 → B2 → B3 → B4 → B5 → B6 → B7 → B8 → B9 → B10 → B11 → Prop, (∀ (x1 : B1) (x2 : B2) (x3 : B3) (x4 : B4) (x5 : B5) (x6 : B6) (x7 : B7) (x8 : B8) (x9 : B9) (x10 : B10) (x11 : B11), (J x1 x2 x3 x4 x5 x6 x7 x8 x9 x10 x11) → P x1 x2 x3 x4 x5 x6 x7 x8 x9 x10 x11) → K J → G) : G := hk C hc h
def jn12 {B1 B2 B3 B4 B5 B6 B7 B8 B9 B10 B11 B12 : Type} (C : B1 → B2 → B3 → B4 → B5 → B6 → B7 → B8 → B9 → B10 → B11 → B12 → Prop) (K : (B1 → B2 → B3 → B4 → B5 → B6 → B7 → B8 → B9 → B10 → B11 → B12 → Prop) → Prop) : Prop := K C
theorem jn12_use {B1 B2 B3 B4 B5 B6 B7 B8 B9 B10 B11 B12 : Type} {C : B1 → B2 → B3 → B4 → B5 → B6 → B7 → B8 → B9 → B10 → B11 → B12 → Prop} {K : (B1 → B2 → B3 → B4 → B5 → B6 → B7 → B8 → B9 → B10 → B11 → B12 → Prop) → Prop} {G : Prop} (P : B1 → B2 → B3 → B4 → B5 → B6 → B7 → B8 → B9 → B10 → B11 → B12 → Prop) (h : jn12 C K) (hc : ∀ (x1 : B1) (x2 : B2) (x3 : B3) (x4 : B4) (x5 : B5) (x6 : B6) (x7 : B7) (x8 : B8) (x9 : B9) (x10 : B10) (x11 : B11) (x12 : B12), (C x1 x2 x3 x4 x5 x6 x7 x8 x9 x10 x11 x12) → P x1 x2 x3 x4 x5 x6 x7 x8 x9 x10 x11 x12) (hk : ∀ J : B1 → B2 → B3 → B4 → B5 → B6 → B7 → B8 → B9 → B10 → B11 → B12 → Prop, (∀ (x1 : B1) (x2 : B2) (x3 : B3) (x4 : B4) (x5 : B5) (x6 : B6) (x7 : B7) (x8 : B8) (x9 : B9) (x10 : B10) (x11 : B11) (x12 : B12), (J x1 x2 x3 x4 x5 x6 x7 x8 x9 x10 x11 x12) → P x1 x2 x3 x4 x5 x6 x7 x8 x9 x10 x11 x12) → K J → G) : G := hk C hc h
theorem lcmp0 {x y : Int64} : lg_cmp x y = 0 ↔ x = y := by
  unfold lg_cmp
  simp only [gt_iff_lt, Int64.lt_iff_toInt_lt, ← Int64.toInt_inj]
  repeat' split
  all_goals (constructor <;> intro hh <;> first | omega | decide | exact absurd hh (by decide))
