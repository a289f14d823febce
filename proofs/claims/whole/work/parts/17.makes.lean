/-! MAKING CELLS -/
theorem va_RA_eq {U : State} {c1 c2 : ClassId} {ty : FieldType} (hp : ty = .int ∨ ty = .long ∨ ty = .boolean) (h1 : va_RA U c1 ty) (h2 : va_RA U c2 ty) : c1 = c2 := by
  rcases hp with rfl | rfl | rfl <;> exact Option.some.inj (Eq.trans (Eq.symm h1) h2)
theorem sk_introI {l : Launch} {y : MethodName} {cc : ByteArray} {maxL : Nat} {rm : Room} {D : va_G} {tys : List (ClassId × FieldType)} {w0 : va_W} {av : List Value} {sz : Nat} {wp : Prop} {Qc : Array Value → State → Outcome → State → Prop} {mc ms : Nat} (hy : plainName y.cls = true) (hy1 : y.name = "<init>") (hlen : (lg_sl av).length ≤ maxL)
    (body : ∀ (p : Program) (e : Env) (s : State) (m : MethodId) (below : List Frame) (meth : Method) (c : Code), sk_C p s m av.toArray meth c cc maxL y.cls D tys → meth.name = "<init>" → meth.sig.returnType = none → s.heap.size = sz → wp → AW p l e rm s m av.toArray below meth c D (va_A w0 sz) (va_A w0 sz) maxL (MQ below Qc av.toArray s mc ms (va_A w0 sz)) 0 0 w0 (lv_args 0 av) 0 []) :
    Met l y (Cond.code y cc maxL none :: GW) rm (va_Pc av (fun U => sk_P D tys w0 sz U ∧ wp)) Qc mc ms (va_A w0 sz) := by
  refine Met.ofW (cc := cc) (maxL := maxL) (ret := none) hy rfl ?_
  intro p e s m args below meth c s₁ B hml hv
  obtain ⟨rfl, ⟨hsz, hP, hK, hD0, hN⟩, hwp⟩ := hv
  have hts := atoms_spec (ws := Cond.code y cc maxL none :: GW) B.pre
  have hown : s.vm.findClass y.cls = some m.cls := findClass_of_methodNamed B.named
  have hl := lv_entry av (n := maxL) hlen
  rw [lg_entry_eq]
  generalize (lg_sl av ++ List.replicate (maxL - (lg_sl av).length) Slot.unset).toArray = ls at hl ⊢
  exact body p e s m below meth c ⟨B.exec, B.bytes, hml, hown, fun w hw => hts w (List.mem_cons_of_mem _ hw), hK, B.notSynchronized, hN⟩ ((name_of_methodNamed B.named B.method).1.trans hy1) B.returns hsz hwp (fun q hq => Or.inr (by rw [← hsz]; exact hq)) s.heap [] ls hP (hD0.self (sz := sz)) va_S.rf hl
/-- a final field, in its class's constructor -/
def sk_Ff (own : String) (index ci k : Nat) (ty : FieldType) : Prop := ∃ (T : u_T) (N : Nat) (t0 : Nat → FieldType), classes[ci]? = some (own, T, N) ∧ (∀ w ∈ u_ws own T N, w ∈ GW) ∧ k < N ∧ Cond.fieldLink own index (T k).1 (T k).2.1 (T k).2.2.1 ∈ GW ∧
  (∀ k, k < N → parseFieldDescriptor (T k).2.2.1 = some (t0 k)) ∧ (∀ a, a < N → ∀ b, b < N → a ≠ b → (T a).2.1 ≠ (T b).2.1) ∧ (T k).2.2.2 = true ∧ (T k).1 = own ∧ parseFieldDescriptor (T k).2.2.1 = some ty
/-- a class that may be made -/
def sk_Nw (own : String) (index ci N : Nat) (fs : List Value) : Prop := ∃ (C : String) (T : u_T) (t0 : Nat → FieldType), classes[ci]? = some (C, T, N) ∧ (∀ w ∈ u_ws C T N, w ∈ GW) ∧ (∀ k, k < N → parseFieldDescriptor (T k).2.2.1 = some (t0 k)) ∧ Cond.classLink own index C ∈ GW ∧ Cond.instantiable C N ∈ GW ∧ Cond.initialized C ∈ GW ∧ ∀ j, j < N → defaultValue (t0 j) = vp_V fs j
def sk_I (own : String) (index : Nat) (y : MethodName) (bytes : ByteArray) (maxL : Nat) (n : Nat) : Prop :=
  Cond.code y bytes maxL none ∈ GW ∧ (Cond.methodLink own index y ∈ GW ∨ ∃ host : String, Cond.methodLinkNest own index y host ∈ NW) ∧ Cond.instanceMethod y ∈ GW ∧ Cond.initialized y.cls ∈ GW ∧ y.name = "<init>" ∧ (y.cls ≠ "java/lang/invoke/MethodHandle" ∧ y.cls ≠ "java/lang/invoke/VarHandle" ∧ (parseMethodDescriptor y.desc).map (fun d => d.parameters.length) = some n)
section MK
variable {p : Program} {l : Launch} {e : Env} {R : Room} {s : State} {m : MethodId} {args : Array Value} {below : List Frame} {meth : Method} {c : Code} {D : va_G} {A : Nat → Prop} {nL : Nat} {Q : State → Prop} {cells slots : Nat} {ws ws' : va_W} {lv lv' : List (Nat × Value)} {pc pc' : Nat} {st rest : List Value} {cc : ByteArray} {own : String} {tys : List (ClassId × FieldType)} {t : List (Nat × Instr × Nat)} {y : MethodName} {bytes : ByteArray} {maxL n index b : Nat} {rm : Room} {S : Type} {wl : S → va_W} {mc ms : Nat}
theorem A_perm (is : List Nat) (hs : is.filterMap (fun i => ws[i]?) = ws') (hn : va_nd is = true) (hs2 : is.map (fun i => ws[i]?) = ws'.map some) (kk : AW p l e R s m args below meth c D A A nL Q cells slots ws' lv pc st) : AW p l e R s m args below meth c D A A nL Q cells slots ws lv pc st :=
  fun hA H locs ls hP hD hS hl => kk hA H locs ls (hP.sub is hs) (hD.sub is hn hs2) hS hl
theorem A_newa (K : sk_C p s m args meth c cc nL own D tys) (T : sk_T cc t) (ti t0 : Nat) {atype : ArrayType} {ty : FieldType} {cT : ClassId} {x : Int32} {N : Nat} {a0 : vp_A} (hty : newarray.typeOf atype = ty) (hpr : ty = .int ∨ ty = .long ∨ ty = .boolean) (hw : Cond.arrayClass (newarray.typeOf atype) ∈ GW) (ht : tys[t0]? = some (cT, ty)) (ha : ∀ cA : ClassId, vp_cell cA a0 = arrV cA N (fun _ => defaultValue ty)) (hn : ¬ x < 0) (hN : x.toNatClampNeg = N) (hbytes : N * componentBytes ty ≤ 536870912) (hcells : cells + 1 ≤ R.cells) (hslots : slots + N ≤ R.slots) (hd : t[ti]? = some (pc, .newarray atype, 2)) (hp : pc + 2 = pc')
    (kk : ∀ q : Nat, AW p l e R s m args below meth c D A A nL Q (cells + 1) (slots + N) (ws ++ [(q, .inl (cT, a0))]) lv pc' (.ref q :: st)) : AW p l e R s m args below meth c D A A nL Q cells slots ws lv pc (.int x :: st) := by
  subst hp
  intro hA H locs ls hP hD hS h
  refine va_newa K.1 K.2.1 (K.2.2.2.2.1 _ hw) hty K.2.2.2.2.2.1 hP hD hS hA ha hn hN hbytes hcells hslots (T.at ti hd) (fun q cA H1 hK1 hP1 hD1 hS1 => ?_)
  have h1 : va_RA s cA ty := (hK1.2 tys.length (cA, ty) (by simp)).2
  have h2 : va_RA s cT ty := (K.2.2.2.2.2.1.2 t0 (cT, ty) ht).2
  have he := va_RA_eq hpr h1 h2
  subst he
  exact kk q hA H1 locs ls hP1 hD1 hS1 h
theorem A_new (K : sk_C p s m args meth c cc nL own D tys) (T : sk_T cc t) (ti : Nat) {ci N : Nat} {fs : List Value} (F : sk_Nw own index ci N fs) (hcells : cells + 1 ≤ R.cells) (hslots : slots + N ≤ R.slots) (hd : t[ti]? = some (pc, .new index, 3)) (hp : pc + 3 = pc')
    (kk : ∀ q : Nat, AW p l e R s m args below meth c D A A nL Q (cells + 1) (slots + N) (ws ++ [(q, .inr (ci, fs))]) lv pc' (.ref q :: st)) : AW p l e R s m args below meth c D A A nL Q cells slots ws lv pc st := by
  subst hp
  obtain ⟨C, TT, t0, f1, f2, f3, f4, f5, f6, f7⟩ := F
  exact fun hA H locs ls hP hD hS h => va_new K.1 K.2.1 K.2.2.2.2.1 f2 t0 f3 K.2.2.2.1 (K.2.2.2.2.1 _ f4) (K.2.2.2.2.1 _ f5) (K.2.2.2.2.1 _ f6) K.2.2.2.2.2.1 hP hD hS hA f1 f7 hcells hslots (T.at ti hd) (fun q H1 hP1 hD1 hS1 => kk q hA H1 locs ls hP1 hD1 hS1 h)
theorem A_putF (K : sk_C p s m args meth c cc nL own D tys) (hin : meth.name = "<init>") (T : sk_T cc t) (ti q0 : Nat) {ci k a : Nat} {fs : List Value} {v : Value} {ty : FieldType} (F : sk_Ff own index ci k ty) (hd : t[ti]? = some (pc, .putfield index, 3)) (hp : pc + 3 = pc') (he : ws[q0]? = some (a, .inr (ci, fs))) (hl : k < fs.length) (hn : narrow ty v = v) (hf : fits ty v = true) (hw : ws.set q0 (a, .inr (ci, fs.set k v)) = ws') (kk : AW p l e R s m args below meth c D A A nL Q cells slots ws' lv pc' st) : AW p l e R s m args below meth c D A A nL Q cells slots ws lv pc (v :: .ref a :: st) := by
  subst hp; subst hw; obtain ⟨TT, N, t0, h1, h2, h3, h4, h5, h6, h7, h7b, h8⟩ := F
  exact fun hA H locs ls hP hD hS h => va_putF K.1 K.2.1 K.2.2.2.2.1 h2 t0 h5 h6 K.2.2.2.1 K.2.2.2.2.2.1 hP hD hS q0 he h1 k h3 (K.2.2.2.2.1 _ h4) (fun _ z => z) h7 hin h7b h8 hn hf hl (T.at ti hd) (fun H1 locs1 hP1 hD1 hS1 => kk hA H1 locs1 ls hP1 hD1 hS1 h)
theorem A_objInit (K : sk_C p s m args meth c cc nL own D tys) (T : sk_T cc t) (ti : Nat) {a : Nat} (g1 : Cond.methodLink own index Lib.objectInit ∈ GW) (g2 : Cond.instanceMethod Lib.objectInit ∈ GW) (g3 : Cond.code Lib.objectInit ⟨#[0xb1]⟩ 1 none ∈ GW) (hd : t[ti]? = some (pc, .invokespecial index, 3)) (hp : pc + 3 = pc') (hf : 1 ≤ R.frames) (hlo : (st.map fun v => v.category).sum + 12 ≤ R.locals) (kk : AW p l e R s m args below meth c D A A nL Q cells slots ws lv pc' st) : AW p l e R s m args below meth c D A A nL Q cells slots ws lv pc (.ref a :: st) := by
  subst hp
  exact fun hA H locs ls hP hD hS h => W.objInit K.1 K.2.1 K.2.2.2.1 (K.2.2.2.2.1 _ g1) (K.2.2.2.2.1 _ g2) (K.2.2.2.2.1 _ g3) rfl (by rw [K.2.2.1]; exact h.1) rfl (T.at ti hd) hf (by show 2 * 0 + _ + 12 ≤ _; omega) (kk hA H locs ls hP hD hS h)
theorem A_callI (K : sk_C p s m args meth c cc nL own D tys) (T : sk_T cc t) (ti q0 : Nat) (isR : List Nat) {ci : Nat} {fs : List Value} {wr : va_W} (V : sk_I own index y bytes maxL 0) (hR : rm.cells = mc ∧ rm.slots = ms ∧ rm.frames + 1 ≤ R.frames ∧ 8 + (maxL + 11) + rm.locals ≤ R.locals)
    (hM : ∀ sz : Nat, Met l y (Cond.code y bytes maxL none :: GW) rm (va_Pc [.ref b] (fun U => sk_P D tys [(b, .inr (ci, fs))] sz U ∧ True)) (va_Qv (fun _ : S => True) (fun u t => sk_B D tys (wl u) (va_A [(b, .inr (ci, fs))] sz) t) (va_A [(b, .inr (ci, fs))] sz)) mc ms (va_A [(b, .inr (ci, fs))] sz))
    (hd : t[ti]? = some (pc, .invokespecial index, 3)) (hp : pc + 3 = pc') (he : ws[q0]? = some (b, .inr (ci, fs))) (hw : (st.map fun v => v.category).sum ≤ 8) (hcap : cells + mc ≤ R.cells ∧ slots + ms ≤ R.slots) (hRr : isR.map (fun i => ws[i]?) = wr.map some) (hnR : va_nd isR = true) (hdis : q0 ∉ isR)
    (kk : ∀ u : S, AW p l e R s m args below meth c D A A nL Q (cells + mc) (slots + ms) (wr ++ wl u) lv pc' st) : AW p l e R s m args below meth c D A A nL Q cells slots ws lv pc (.ref b :: st) := by
  subst hp
  intro hA H locs ls hP hD hS h
  have hC : [q0].map (fun i => ws[i]?) = [(b, Sum.inr (ci, fs))].map some := by show [ws[q0]?] = _; rw [he]; rfl
  have hPc : va_P D classes [(b, .inr (ci, fs))] H := hP.sub [q0] (by show List.filterMap _ [q0] = _; simp [he])
  have hDc := hD.sub (ws' := [(b, .inr (ci, fs))]) [q0] rfl hC
  have hFc := va_free (wc := [(b, .inr (ci, fs))]) hD hS hA [q0] hC
  obtain ⟨V1, V2, V3, V4, V5, V6⟩ := V
  have hpre : PreS s H (va_Pc [.ref b] (fun U => sk_P D tys [(b, .inr (ci, fs))] H.size U ∧ True)) (.ref b :: []) := ⟨sk_P.blind, fun U hU hW => ⟨rfl, ⟨by rw [hU], by rw [hU]; exact hPc, va_K.moved hW.alike K.2.2.2.2.2.1, hDc.weaken (fun _ _ _ _ => trivial), K.2.2.2.2.2.2.2.warm hW⟩, trivial⟩⟩
  have hrun : va_Run p l e R s m args below meth c H locs cells slots mc ms (F0 m pc ls (.ref b :: st)) st ((va_Qv (fun _ : S => True) (fun u t => sk_B D tys (wl u) (va_A [(b, .inr (ci, fs))] H.size) t) (va_A [(b, .inr (ci, fs))] H.size)) #[.ref b]) (va_A [(b, .inr (ci, fs))] H.size) := by
    rcases V2 with V2 | ⟨host, V2⟩
    · exact va_runI (As := []) (rest := st) ⟨K.1, K.2.1, K.2.2.1, K.2.2.2.1, K.2.2.2.2.1⟩ (hM H.size) ⟨callB_of 0 K.2.2.2.2.1 (gw_goodc V1) rfl hR.1 hR.2.1 (K.2.2.2.2.1 _ V4) (K.2.2.2.2.1 _ V2) V6 hR.2.2, V5, K.2.2.2.2.1 _ V3⟩ hpre rfl rfl h.1 rfl (lv_room hw) (T.at ti hd) hcap
    · exact va_runIN (As := []) (rest := st) (host := host) ⟨K.1, K.2.1, K.2.2.1, K.2.2.2.1, K.2.2.2.2.1⟩ (hM H.size) ⟨va_cnB 0 K.2.2.2.2.1 (gw_goodc V1) rfl hR.1 hR.2.1 (K.2.2.2.2.2.2.2 _ V2) (K.2.2.2.2.1 _ V4) V6 hR.2.2, V5, K.2.2.2.2.1 _ V3⟩ hpre rfl rfl h.1 rfl (lv_room hw) (T.at ti hd) hcap
  refine va_callv hrun hS (fun q _ h9 => hFc q h9) hFc (fun u t1 H1 locs1 ht hvm _ hB hz1 hk1 hS1 => ?_)
  obtain ⟨hP1, hK1, hD1⟩ := hB
  rw [ht] at hP1
  obtain ⟨hP2, hD2⟩ := va_join (wr := wr) (w1 := wl u) hP hD [q0] isR hC hRr hnR (fun i hi hm => hdis (by rw [← List.mem_singleton.mp hm]; exact hi)) hk1 hFc hP1 hD1
  exact kk u hA H1 locs1 ls hP2 hD2 hS1 h
end MK

