/-! A HANDLER IN THE METHOD ITSELF: its classes may be linked for the first time by the search -/
def sk_Find (e : Env) (S : State) (f : JFrame) (a : Addr) (pc : Nat) (vm' : Vm) : Prop := ∀ (Q : Handler → Pre) (E : CtlPost) (d : Bool) (acts : List Action), wp (findHandler f a) Q E e d acts S ↔ Q (.found pc) d acts (S.setVm vm')
def sk_FindGo (e : Env) (S : State) (f : JFrame) (a : Addr) (tb : List ExceptionTableEntry) (pc : Nat) (vm' : Vm) : Prop := ∀ (Q : Handler → Pre) (E : CtlPost) (d : Bool) (acts : List Action), wp (findHandler.go f a tb) Q E e d acts S ↔ Q (.found pc) d acts (S.setVm vm')
theorem sk_go_yes {e : Env} {S : State} {f : JFrame} {a : Addr} {x : ExceptionTableEntry} {tb : List ExceptionTableEntry} {c : ClassId} {cell : Cell} (hx : covers x f.pc = true) (h0 : x.catchType ≠ 0) (hl : S.vm.ClassLinks e.platform f.method.cls x.catchType c) (hcell : S.heap[a]? = some cell) (hobj : cell.vm.isStatics = false)
    (hk : ∃ k, S.vm.classes[cell.cls]? = some k) (hc : ∃ k, S.vm.classes[c]? = some k) (hfit : S.vm.assignable cell.cls c = true) : sk_FindGo e S f a (x :: tb) x.handlerPc (S.vm.noted f.method.cls x.catchType (.cls c)) := by
  intro Q E d acts
  have hob : ∀ k, cell.vm ≠ .statics k := fun k h => by rw [h] at hobj; cases hobj
  simp only [covers] at hx
  have hal : S.vm.Alike (S.vm.noted f.method.cls x.catchType (.cls c)) := (Vm.Alike.refl S.vm).noted _ _ _
  obtain ⟨r1, r2⟩ := (resolveClass_links e.toSetting hl).op (op := VmOp.resolveClass f.method.cls x.catchType) rfl
  obtain ⟨k1, e1⟩ := hk
  obtain ⟨k2, e2⟩ := hc
  obtain ⟨k1', e1', -⟩ := hal.2.2 _ _ e1
  obtain ⟨k2', e2', -⟩ := hal.2.2 _ _ e2
  have hf : (S.vm.noted f.method.cls x.catchType (.cls c)).assignable cell.cls c = true := by rw [hal.assignable]; exact hfit
  simp [findHandler.go, hx, h0, r1, r2, hcell, hob, e1', e2', hf, VmOp.dirties, VmOp.acts]
theorem sk_go_no {e : Env} {S : State} {f : JFrame} {a : Addr} {x : ExceptionTableEntry} {tb : List ExceptionTableEntry} {c : ClassId} {cell : Cell} {pc : Nat} {vm' : Vm} (hx : covers x f.pc = true) (h0 : x.catchType ≠ 0) (hl : S.vm.ClassLinks e.platform f.method.cls x.catchType c) (hcell : S.heap[a]? = some cell) (hobj : cell.vm.isStatics = false)
    (hk : ∃ k, S.vm.classes[cell.cls]? = some k) (hc : ∃ k, S.vm.classes[c]? = some k) (hno : S.vm.assignable cell.cls c = false) (hnext : sk_FindGo e (S.setVm (S.vm.noted f.method.cls x.catchType (.cls c))) f a tb pc vm') : sk_FindGo e S f a (x :: tb) pc vm' := by
  intro Q E d acts
  have hob : ∀ k, cell.vm ≠ .statics k := fun k h => by rw [h] at hobj; cases hobj
  simp only [covers] at hx
  have hal : S.vm.Alike (S.vm.noted f.method.cls x.catchType (.cls c)) := (Vm.Alike.refl S.vm).noted _ _ _
  obtain ⟨r1, r2⟩ := (resolveClass_links e.toSetting hl).op (op := VmOp.resolveClass f.method.cls x.catchType) rfl
  obtain ⟨k1, e1⟩ := hk
  obtain ⟨k2, e2⟩ := hc
  obtain ⟨k1', e1', -⟩ := hal.2.2 _ _ e1
  obtain ⟨k2', e2', -⟩ := hal.2.2 _ _ e2
  have hf : (S.vm.noted f.method.cls x.catchType (.cls c)).assignable cell.cls c = false := by rw [hal.assignable]; exact hno
  have h9 := hnext Q E d acts
  simp [findHandler.go, hx, h0, r1, r2, hcell, hob, e1', e2', hf, VmOp.dirties, VmOp.acts]
  exact h9
theorem sk_caught {tb : Tables} {e : Env} {s target : State} {g : JFrame} {c : Code} {below : List Frame} {a : Addr} {pc : Nat} {vm' : Vm} (h : At s g.method c below) (hf : sk_Find e ((s.setTop g).pushFrame (.throwing a)) g a pc vm')
    (hrest : Steps tb e below ((s.setVm vm').setTop { g with pc := pc, stack := [.ref a] }) target) : Steps tb e below ((s.setTop g).pushFrame (.throwing a)) target := by
  have hstep : ∀ r : List Frame, (stepThrowing e ((s.setTop g).pushFrame (.throwing a)) a (.java g :: r)).Is ((((s.setTop g).pushFrame (.throwing a)).setVm vm').setFrames (.java { g with pc := pc, stack := [.ref a] } :: r)) [] := by
    intro r
    simp only [stepThrowing, searchFrame, vmDo]
    generalize hr : Sem.go _ e false [] ((s.setTop g).pushFrame (.throwing a)) = res
    obtain ⟨as, rfl, ha⟩ := Sem.eq_ok_of hr (a := Handler.found pc) (s' := ((s.setTop g).pushFrame (.throwing a)).setVm vm') (acts' := []) (by simp [hf _ _ _ _])
    exact ⟨rfl, ha⟩
  obtain ⟨hgo, hw⟩ := h.throwing a
  refine Steps.head hgo hw ?_
  rw [stepThread_throwing (frames_entered h.top _), (hstep _).1]
  obtain ⟨g₀, hg⟩ := Option.isSome_iff_exists.mp h.top
  obtain ⟨r, hr⟩ := State.topJava?_eq_some.mp hg
  have hr2 : (s.setVm vm').frames = .java g₀ :: r := hr
  rw [State.setTop_of_frames _ hr2] at hrest
  have he : ((((s.setTop g).pushFrame (.throwing a)).setVm vm').setFrames (.java { g with pc := pc, stack := [.ref a] } :: s.frames.tail)) = (s.setVm vm').setFrames (.java { g with pc := pc, stack := [.ref a] } :: r) := by
    have h1 : ((s.setTop g).pushFrame (.throwing a)) = s.setFrames (.throwing a :: .java g :: r) := by
      rw [State.pushFrame, State.setTop_of_frames _ hr, State.setFrames_setFrames, State.frames_setFrames _ (State.cur_lt_of_frames hr)]
    rw [h1, hr]
    show ((s.setFrames _).setVm vm').setFrames _ = _
    have h2 : (s.setFrames (.throwing a :: .java g :: r)).setVm vm' = (s.setVm vm').setFrames (.throwing a :: .java g :: r) := rfl
    rw [h2, State.setFrames_setFrames]
    rfl
  rw [he]
  exact hrest
def sk_nc (a b : String) (U : State) : Prop := ∀ cX cT : ClassId, U.vm.findClass a = some cX → U.vm.findClass b = some cT → U.vm.assignable cX cT = false
theorem sk_nc.moved {a b : String} {s U : State} (hvm : s.vm.Alike U.vm) (h : sk_nc a b s) : sk_nc a b U := fun cX cT h1 h2 => by
  rw [hvm.findClass] at h1 h2
  rw [hvm.assignable]
  exact h cX cT h1 h2
theorem sk_go_all {e : Env} {s : State} {f : JFrame} {a : Addr} {cell : Cell} {c : ClassId} {x : ExceptionTableEntry} {rest : List ExceptionTableEntry} (hobj : cell.vm.isStatics = false) (hk : ∃ k, s.vm.classes[cell.cls]? = some k) (hx : covers x f.pc = true) (h0 : x.catchType ≠ 0) (hl : s.vm.ClassLinks e.platform f.method.cls x.catchType c) (hfit : s.vm.assignable cell.cls c = true) :
    ∀ (pre : List ExceptionTableEntry) (S : State), s.WarmedH S.vm → S.heap[a]? = some cell → (∀ y ∈ pre, covers y f.pc = true ∧ y.catchType ≠ 0 ∧ ∃ c : ClassId, s.vm.ClassLinks e.platform f.method.cls y.catchType c ∧ s.vm.assignable cell.cls c = false) → ∃ vm' : Vm, s.WarmedH vm' ∧ sk_FindGo e S f a (pre ++ x :: rest) x.handlerPc vm'
  | [], S, hW, hcell, _ => by
    obtain ⟨k0, hk0⟩ := hk
    obtain ⟨k0', hk0', -⟩ := hW.alike.2.2 _ _ hk0
    obtain ⟨dk, _, _, kt, hd, _, _, _, _, hkt, _, hopen⟩ := hl.here
    obtain ⟨kt', hkt', -⟩ := hW.alike.2.2 _ _ hkt
    exact ⟨_, hW.noted hd hopen (State.rightAt_cls hl), sk_go_yes hx h0 (hW.classLinks hl) hcell hobj ⟨k0', hk0'⟩ ⟨kt', hkt'⟩ (by rw [hW.alike.assignable]; exact hfit)⟩
  | y :: ys, S, hW, hcell, hp => by
    obtain ⟨hy, hy0, cy, hly, hno⟩ := hp y List.mem_cons_self
    obtain ⟨k0, hk0⟩ := id hk
    obtain ⟨k0', hk0', -⟩ := hW.alike.2.2 _ _ hk0
    obtain ⟨dk, _, _, kt, hd, _, _, _, _, hkt, _, hopen⟩ := hly.here
    obtain ⟨kt', hkt', -⟩ := hW.alike.2.2 _ _ hkt
    obtain ⟨vm', hW', hf⟩ := sk_go_all hobj hk hx h0 hl hfit ys (S.setVm (S.vm.noted f.method.cls y.catchType (.cls cy))) (hW.noted hd hopen (State.rightAt_cls hly)) hcell (fun z hz => hp z (List.mem_cons_of_mem _ hz))
    exact ⟨vm', hW', sk_go_no hy hy0 (hW.classLinks hly) hcell hobj ⟨k0', hk0'⟩ ⟨kt', hkt'⟩ (by rw [hW.alike.assignable]; exact hno) hf⟩
section CA
variable {p : Program} {l : Launch} {e : Env} {R : Room} {s : State} {m : MethodId} {args : Array Value} {below : List Frame} {meth : Method} {c : Code} {D : va_G} {A B : Nat → Prop} {nL : Nat} {Q : State → Prop} {cells slots : Nat} {ws ws' : va_W} {lv lv' : List (Nat × Value)} {pc pc' : Nat} {st : List Value} {cc : ByteArray} {own : String} {tys : List (ClassId × FieldType)} {t : List (Nat × Instr × Nat)}
theorem AX_catch (K : sk_C p s m args meth c cc nL own D tys) {k : Nat} (pre : List ExceptionTableEntry) (x : ExceptionTableEntry) (rest : List ExceptionTableEntry) (hsplit : c.exceptionTable.toList = pre ++ x :: rest)
    (hpre : ∀ y ∈ pre, covers y pc = true ∧ y.catchType ≠ 0 ∧ ∃ name : String, Cond.classLink own y.catchType name ∈ GW ∧ sk_nc (excN k) name s) (hx : covers x pc = true) (h0 : x.catchType ≠ 0) (hlk : Cond.classLink own x.catchType (excN k) ∈ GW) (hcast : Cond.castable (excN k) (excN k) ∈ NW) (hp : x.handlerPc = pc')
    (kk : ∀ a : Nat, AW p l e R s m args below meth c D A B nL Q cells slots ws lv pc' [.ref a]) : AXW p l e R s m args below meth c D A B nL Q cells slots ws lv pc k := by
  subst hp
  intro hA H locs ls st a T hT X hP hD hS hl hE
  obtain ⟨ce, hc1, hc2, hc3⟩ := hE
  have hpl : e.platform.magicAccessors = ({} : Platform).magicAccessors := by rw [X.admits.platform]
  have hcX : s.vm.findClass (excN k) = some ce.cls := by rw [← X.warmed.alike.findClass]; exact hc3
  obtain ⟨cT, hcT, hcl⟩ := Cond.classLink_spec K.2.2.2.1 (K.2.2.2.2.1 _ hlk) e.platform hpl
  cases hcX.symm.trans hcT
  have hkX : ∃ kX, s.vm.classes[ce.cls]? = some kX := Vm.classAt_of_findClass hcX
  have hself : s.vm.assignable ce.cls ce.cls = true := by
    have h1 : (Cond.castable (excN k) (excN k)).before #[] s = true := K.2.2.2.2.2.2.2 _ hcast
    simpa [Cond.before, Cond.holds, Cond.value, hcX] using h1
  obtain ⟨vm', hW', hf⟩ := sk_go_all (e := e) (s := s) (f := F0 m pc ls st) (a := a) (cell := ce) (rest := rest) hc2 hkX hx h0 hcl hself pre ((T.setTop (F0 m pc ls st)).pushFrame (.throwing a)) (by rw [Stand.throwing_vm]; exact X.warmed) (by rw [Stand.throwing_heap]; exact hc1) (fun y hy => by
    obtain ⟨h1, h2, name, h3, h4⟩ := hpre y hy
    obtain ⟨cy, hcy, hly⟩ := Cond.classLink_spec K.2.2.2.1 (K.2.2.2.2.1 _ h3) e.platform hpl
    exact ⟨h1, h2, cy, hly, h4 _ _ hcX hcy⟩)
  have hF : sk_Find e ((T.setTop (F0 m pc ls st)).pushFrame (.throwing a)) (F0 m pc ls st) a x.handlerPc vm' := fun Q E d acts => by
    rw [W.findHandler_eq (meth := meth) (code := c) (by rw [Stand.throwing_vm]; exact X.method') X.code, hsplit]
    exact hf Q E d acts
  obtain ⟨t2, a1, b1⟩ := kk a hA H locs ls hP hD hS hl (T.setVm vm') hT (X.noted hW')
  exact ⟨t2, sk_caught X.here hF a1, b1⟩
theorem A_astore_n (K : sk_C p s m args meth c cc nL own D tys) (T : sk_T cc t) (ti : Nat) {k : Fin 4} {i : Nat} {x : Nat} (hd : t[ti]? = some (pc, .astore_n k, 1)) (hp : pc + 1 = pc') (hi : (k : Nat) = i) (hn : i < nL) (hl : (i, Value.ref x) :: lv.filter (fun q => !(q.1 == i) && !(q.1 + 1 == i && q.2.category == 2)) = lv') (kk : AW p l e R s m args below meth c D A B nL Q cells slots ws lv' pc' st) : AW p l e R s m args below meth c D A B nL Q cells slots ws lv pc (.ref x :: st) := by
  subst hp; exact fun hA H locs ls hP hD hS h => lv_astore_n K.1 K.2.1 (T.at ti hd) hi h hn hl (fun ls' h' => kk hA H locs ls' hP hD hS h')
theorem A_astore (K : sk_C p s m args meth c cc nL own D tys) (T : sk_T cc t) (ti : Nat) {i : Nat} {x : Nat} (hd : t[ti]? = some (pc, .astore i, 2)) (hp : pc + 2 = pc') (hn : i < nL) (hl : (i, Value.ref x) :: lv.filter (fun q => !(q.1 == i) && !(q.1 + 1 == i && q.2.category == 2)) = lv') (kk : AW p l e R s m args below meth c D A B nL Q cells slots ws lv' pc' st) : AW p l e R s m args below meth c D A B nL Q cells slots ws lv pc (.ref x :: st) := by
  subst hp; exact fun hA H locs ls hP hD hS h => lv_astore K.1 K.2.1 (T.at ti hd) h hn hl (fun ls' h' => kk hA H locs ls' hP hD hS h')
theorem A_wid {k n : Nat} (h1 : cells ≤ k) (h2 : slots ≤ n) (kk : AW p l e R s m args below meth c D A B nL Q k n ws lv pc st) : AW p l e R s m args below meth c D A B nL Q cells slots ws lv pc st := fun hA H locs ls hP hD hS hl => W.widen h1 h2 (kk hA H locs ls hP hD hS hl)
theorem A_ws (h : ws = ws') (kk : AW p l e R s m args below meth c D A B nL Q cells slots ws' lv pc st) : AW p l e R s m args below meth c D A B nL Q cells slots ws lv pc st := h ▸ kk
end CA
