theorem callSW {p : Program} {l : Launch} {e : Env} {R : Room} {s : State} {m : MethodId} {args : Array Value} {below : List Frame} {meth : Method} {c : Code} {T : State} {locs : List Loc} {cells slots : Nat} (X : Stand p l e R s m args below meth c T locs cells slots) (hexec : p.tables.exec = Jvm.exec) {own : String} {index : Nat} {y : MethodName} {bytes : ByteArray} {maxL : Nat} {ret : Option FieldType} {hh : List (Nat × Nat × Nat × Nat)}
    (hown : s.vm.findClass own = some m.cls) (hlink : (Cond.methodLink own index y).before args s = true) (hstat : (Cond.static y).before args s = true) (hinit : (Cond.initialized y.cls).before args s = true)
    (hcode : (Cond.codeWith y bytes maxL ret hh).before args s = true) (hy : y.cls ≠ "java/lang/invoke/MethodHandle" ∧ y.cls ≠ "java/lang/invoke/VarHandle")
    {W : Nat} {Pre : Pt → Array Value → Prop} {Post : Pt → Array Value → Option Value → Pt → Prop} (hK : Back l R p e below s args y 3 W Pre Post)
    {g : JFrame} (hg : g.method = m) (hsize : g.locals.size = c.maxLocals) {argsL rest : List Value} (hlen : ∀ sig, parseMethodDescriptor y.desc = some sig → argsL.length = sig.parameters.length)
    (hstack : g.stack = argsL.reverse ++ rest) (hW : 2 * g.monitorRoom + (rest.map fun v => v.category).sum ≤ W) (hdg : decode c.code g.pc = .ok (.invokestatic index, 3))
    (hpre : ∀ vm₁, s.WarmedH vm₁ → Pre ⟨T.setVm vm₁, locs, cells, slots⟩ argsL.toArray) :
    ∃ (v : Option Value) (vm₁ : Vm) (B : Pt), s.WarmedH vm₁ ∧ Stand p l e R s m args below meth c B.U B.locs B.cells B.slots ∧ Post ⟨T.setVm vm₁, locs, cells, slots⟩ argsL.toArray v B ∧
      ∀ target, Steps p.tables e below (B.U.setTop { g with pc := g.pc + 3, stack := v.toList ++ rest }) target → Steps p.tables e below (T.setTop g) target := by
  obtain ⟨mk, methM, cM, hnamed, hmethM, -, -, -, -, -, -, hsigM⟩ := Cond.codeWith_spec hcode
  have hstatic : methM.isStatic = true := Cond.static_spec hnamed hmethM hstat
  obtain ⟨kP, hkP, -⟩ := className_of_methodNamed hnamed
  have hinitP : kP.init = .initialized := Cond.initialized_spec (findClass_of_methodNamed hnamed) hkP hinit
  obtain ⟨vm₁, X₁, hstep₁⟩ := X.invokestatic hexec hown hlink hnamed hmethM hstatic hkP hinitP hy (g := g) hg (argsL := argsL) (rest := rest) (hlen _ hsigM) hstack hdg
  obtain ⟨v, B, X', hpost, hsteps⟩ := hK m meth c ⟨T.setVm vm₁, locs, cells, slots⟩ { g with stack := rest } (.invokestatic index) mk argsL.toArray X₁ hg hsize hdg hW (X₁.named hnamed) (hpre vm₁ X₁.warmed)
  exact ⟨v, vm₁, B, X₁.warmed, X', hpost, fun target h => hstep₁ _ fun acts => by rw [doInvoke_state]; exact hsteps.trans h⟩
def sk_SW (own : String) (index : Nat) (y : MethodName) (bytes : ByteArray) (maxL : Nat) (ret : Option FieldType) (hh : List (Nat × Nat × Nat × Nat)) (n : Nat) : Prop :=
  Cond.codeWith y bytes maxL ret hh ∈ GW ∧ Cond.methodLink own index y ∈ GW ∧ Cond.static y ∈ GW ∧ Cond.initialized y.cls ∈ GW ∧ (y.cls ≠ "java/lang/invoke/MethodHandle" ∧ y.cls ≠ "java/lang/invoke/VarHandle" ∧ (parseMethodDescriptor y.desc).map (fun d => d.parameters.length) = some n)
section LR
variable {p : Program} {l : Launch} {e : Env} {R : Room} {s : State} {m : MethodId} {args : Array Value} {below : List Frame} {meth : Method} {c : Code} {D : va_G} {A B A0 : Nat → Prop} {nL : Nat} {Q Q1 : State → Prop} {cells slots : Nat} {ws : va_W} {lv lv' : List (Nat × Value)} {pc pc' : Nat} {st rest As : List Value} {cc : ByteArray} {own : String} {tys : List (ClassId × FieldType)} {t : List (Nat × Instr × Nat)} {y : MethodName} {bytes : ByteArray} {maxL n index b : Nat} {ret : Option FieldType} {rm : Room} {wc : va_W} {wpc : Prop} {S : Type} {wl : S → va_W} {C : String} {hh : List (Nat × Nat × Nat × Nat)}
theorem A_callSW (K : sk_C p s m args meth c cc nL own D tys) (hBA : ∀ q : Nat, B q → A q) (T : sk_T cc t) (ti : Nat) (isC : List Nat) (mx : List (Option Nat)) {post : Int32 → S → Prop} (V : sk_SW own index y bytes maxL ret hh n) (hR : sk_RX rm R maxL) (hX : sk_X A s s.heap) (hn1 : sk_nc (excN 2) (excN 0) s) (hn2 : sk_nc (excN 2) (excN 1) s) (hM : ∀ sz : Nat, Met l y (Cond.codeWith y bytes maxL ret hh :: GW) rm (va_Pc As (fun U => sk_PH D tys wc sz U ∧ wpc)) (va_Qi post (fun u t => sk_B D tys (wl u) (va_A wc sz) t) (va_A wc sz)) 1 6 (va_A wc sz)) (h : wpc) (hd : t[ti]? = some (pc, .invokestatic index, 3)) (hp : pc + 3 = pc') (hs : st = As.reverse ++ rest) (hn : As.length = n) (hC : isC.map (fun i => ws[i]?) = wc.map some) (hadr : ∀ u, (wl u).map (·.1) = wc.map (·.1)) (hnd : va_nd isC = true) (hmx : (List.range mx.length).map (fun k => sk_ix isC k 0) = mx) (hw : (rest.map fun v => v.category).sum ≤ 8) (hcap : cells + 1 ≤ R.cells ∧ slots + 6 ≤ R.slots)
    (kk : ∀ (r : Int32) (u : S), post r u → AW p l e R s m args below meth c D A B nL Q (cells + 1) (slots + 6) (sk_mix ws mx (wl u)) lv pc' (.int r :: rest)) : AW p l e R s m args below meth c D A B nL Q cells slots ws lv pc st := by
  subst hp; subst hs
  intro hA H locs ls hP hD hS hl
  have hat : ∀ (k : Nat) (q : Nat × va_E), wc[k]? = some q → ∃ i : Nat, isC[k]? = some i ∧ ws[i]? = some q := by
    intro k q hq
    have h3 : (isC.map (fun i => ws[i]?))[k]? = some (some q) := by rw [hC, List.getElem?_map, hq]; rfl
    rw [List.getElem?_map] at h3
    cases hi : isC[k]? with
    | none => rw [hi] at h3; cases h3
    | some i => rw [hi] at h3; exact ⟨i, rfl, Option.some.inj h3⟩
  have hPc : va_P D classes wc H := fun k q hq => by
    obtain ⟨i, -, h2⟩ := hat k q hq
    exact hP i q h2
  have hFc : ∀ q, va_A wc H.size q → A q := by
    rintro q (⟨k, ee, h9⟩ | h9)
    · obtain ⟨i, -, h2⟩ := hat k (q, ee) h9
      exact hBA q (hD.2 i (q, ee) h2)
    · exact hA q (Nat.le_trans hS.1 h9)
  have hDc : va_D (fun _ => True) wc := by
    refine ⟨fun i j x z hi hj hxz => ?_, fun _ _ _ => trivial⟩
    obtain ⟨i1, h1, h2⟩ := hat i x hi
    obtain ⟨j1, h3, h4⟩ := hat j z hj
    have hij := hD.1 i1 j1 x z h2 h4 hxz
    subst hij
    exact va_nd_inj isC hnd i j i1 h1 h3
  obtain ⟨V1, V2, V3, V4, V5, V6, V7⟩ := V
  have hK : Back l R p e below s args y 3 8 (PreOf R 1 6 (va_Pc As (fun U => sk_PH D tys wc H.size U ∧ wpc))) (PostOf (va_Qi post (fun u t => sk_B D tys (wl u) (va_A wc H.size) t) (va_A wc H.size)) 1 6 (va_A wc H.size)) := va_backW (bytes := bytes) (maxL := maxL) (ret := ret) (hh := hh) (hM H.size) sk_PH.blind hR.1 hR.2.1 hR.2.2.1 hR.2.2.2 (pay_in K.2.2.2.2.1 (fun w hw => by
    rcases List.mem_cons.mp hw with h1 | h1
    · subst h1; exact gw_good _ V1
    · exact gw_good _ h1)) List.mem_cons_self (fun a' U hW => pay_in K.2.2.2.2.1 gw_good _ V4 a' U hW)
  have hrun : va_Run p l e R s m args below meth c H locs cells slots 1 6 (F0 m pc ls (As.reverse ++ rest)) rest ((va_Qi post (fun u t => sk_B D tys (wl u) (va_A wc H.size) t) (va_A wc H.size)) As.toArray) (va_A wc H.size) := by
    intro T0 hT X
    have hlen : ∀ sig, parseMethodDescriptor y.desc = some sig → As.length = sig.parameters.length := fun sig h => by
      rw [h] at V7
      exact hn.trans (Option.some.inj V7).symm
    obtain ⟨v, vm₁, ⟨U', l2, c2, s2⟩, hW₁, X', ⟨g', mk, t1, L, e1, e2, hq, h1, hL, h2, h3⟩, st1⟩ := callSW X K.1 (bytes := bytes) (maxL := maxL) (ret := ret) (hh := hh) K.2.2.2.1 (K.2.2.2.2.1 _ V2) (K.2.2.2.2.1 _ V3) (K.2.2.2.2.1 _ V4) (K.2.2.2.2.1 _ V1) ⟨V5, V6⟩ hK (g := F0 m pc ls (As.reverse ++ rest)) rfl (hl.1.trans K.2.2.1.symm) (argsL := As) (rest := rest) hlen rfl (lv_room hw) (by rw [K.2.1]; exact T.at ti hd)
      (fun vm₁ hW₁ => ⟨hcap.1, hcap.2, rfl, ⟨⟨⟨by show T0.heap.size = _; rw [hT], by show va_P D classes wc T0.heap; rw [hT]; exact hPc, va_K.moved hW₁.alike K.2.2.2.2.2.1, hDc, K.2.2.2.2.2.2.2.warm hW₁⟩, hX.to (U := T0.setVm vm₁) hW₁ hS hT hFc⟩, sk_nc.moved hW₁.alike hn1, sk_nc.moved hW₁.alike hn2⟩, h⟩)
    dsimp only [Pt.U, Pt.locs, Pt.cells, Pt.slots] at X' e1 e2 h1 h2 h3 st1
    subst h1; subst h2; subst h3
    exact ⟨v, (T0.setVm vm₁).calling g' mk As.toArray, t1, U', L, hT, X', hL, e1, e2, hq, st1⟩
  refine va_calli hrun hS (fun q _ h9 => hFc q h9) hFc (fun r u t1 H1 locs1 ht hvm hw1 hB hz1 hk1 hS1 => ?_)
  obtain ⟨hP1, hK1, hD1⟩ := hB
  rw [ht] at hP1
  obtain ⟨hP2, hD2⟩ := sk_join hP hD hC hmx (hadr u) hk1 hP1
  exact kk r u hw1 hA H1 locs1 ls hP2 hD2 hS1 hl
theorem A_sld (K : sk_C p s m args meth c cc nL own D tys) (T : sk_T cc t) (ti : Nat) {L : Nat} {xs : Nat → Int32} (hx : va_X b L xs s s.heap) (hbl : b < s.heap.size) (hbA : ¬ A b) {i : Int32} (hd : t[ti]? = some (pc, .iaload, 1)) (hp : pc + 1 = pc') (hin : vp_in i L) (kk : AW p l e R s m args below meth c D A B nL Q cells slots ws lv pc' (.int (xs (ix i)) :: st)) : AW p l e R s m args below meth c D A B nL Q cells slots ws lv pc (.int i :: .ref b :: st) := by
  subst hp; exact fun hA H locs ls hP hD hS h => va_sld K.1 K.2.1 hx hbl hbA hS hin (T.at ti hd) (kk hA H locs ls hP hD hS h)
theorem A_slen (K : sk_C p s m args meth c cc nL own D tys) (T : sk_T cc t) (ti : Nat) {L : Nat} {xs : Nat → Int32} (hx : va_X b L xs s s.heap) (hbl : b < s.heap.size) (hbA : ¬ A b) (hd : t[ti]? = some (pc, .arraylength, 1)) (hp : pc + 1 = pc') (kk : AW p l e R s m args below meth c D A B nL Q cells slots ws lv pc' (.int (nI L) :: st)) : AW p l e R s m args below meth c D A B nL Q cells slots ws lv pc (.ref b :: st) := by
  subst hp; exact fun hA H locs ls hP hD hS h => va_slen K.1 K.2.1 hx hbl hbA hS (T.at ti hd) (kk hA H locs ls hP hD hS h)
end LR

