section HX
variable {p : Program} {l : Launch} {e : Env} {R : Room} {s : State} {m : MethodId} {args : Array Value} {below : List Frame} {meth : Method} {c : Code} {D : va_G} {A B A0 : Nat → Prop} {nL : Nat} {Q Q1 : State → Prop} {cells slots : Nat} {ws : va_W} {lv lv' : List (Nat × Value)} {pc pc' : Nat} {st rest As : List Value} {cc : ByteArray} {own : String} {tys : List (ClassId × FieldType)} {t : List (Nat × Instr × Nat)} {y : MethodName} {bytes : ByteArray} {maxL n index b : Nat} {ret : Option FieldType} {rm : Room} {wc : va_W} {wpc : Prop} {S : Type} {wl : S → va_W} {C : String}
theorem CX_call_i (K : sk_C p s m args meth c cc nL own D tys) (hBA : ∀ q : Nat, B q → A q) (T : sk_T cc t) (ti : Nat) (isC : List Nat) (mx : List (Option Nat)) {post : Int32 → S → Prop} {exn : Nat → Prop} (V : sk_V own index y bytes maxL ret n C) (hR : sk_RX rm R maxL) (hX : sk_X A0 s s.heap) (hA0 : ∀ q : Nat, A q → A0 q) (hM : ∀ sz : Nat, MetX l y (Cond.code y bytes maxL ret :: GW) rm (va_Pc (.ref b :: As) (fun U => sk_PX D tys wc sz U ∧ wpc)) (QXi post exn (fun u t => sk_B D tys (wl u) (va_A wc sz) t) (va_A wc sz)) 1 6 (va_A wc sz)) (h : wpc) (hd : t[ti]? = some (pc, .invokevirtual index, 3)) (hp : pc + 3 = pc') (hs : st = As.reverse ++ .ref b :: rest) (hn : As.length = n) (hC : isC.map (fun i => ws[i]?) = wc.map some) (hadr : ∀ u, (wl u).map (·.1) = wc.map (·.1)) (hnd : va_nd isC = true) (hmx : (List.range mx.length).map (fun k => sk_ix isC k 0) = mx) (hw : (rest.map fun v => v.category).sum ≤ 8) (hcap : cells + 1 ≤ R.cells ∧ slots + 6 ≤ R.slots) {q0 ci : Nat} {fs : List Value} {Tt : u_T} {Nn : Nat} (hrc : wc[q0]? = some (b, .inr (ci, fs))) (hcl : classes[ci]? = some (C, Tt, Nn))
    (kk : ∀ (r : Int32) (u : S), post r u → AW p l e R s m args below meth c D A B nL Q cells slots (sk_mix ws mx (wl u)) lv pc' (.int r :: rest)) (kx : ∀ k : Nat, exn k → AXW p l e R s m args below meth c D A B nL Q (cells + 1) (slots + 6) ws lv pc k) : AW p l e R s m args below meth c D A B nL Q cells slots ws lv pc st := by
  subst hp; subst hs
  intro hA H locs ls hP hD hS hl
  have hat : ∀ (k : Nat) (q : Nat × va_E), wc[k]? = some q → ∃ i : Nat, isC[k]? = some i ∧ ws[i]? = some q := by
    intro k q hq
    have h3 : (isC.map (fun i => ws[i]?))[k]? = some (some q) := by rw [hC, List.getElem?_map, hq]; rfl
    rw [List.getElem?_map] at h3
    cases hi : isC[k]? with
    | none => rw [hi] at h3; cases h3
    | some i => rw [hi] at h3; exact ⟨i, rfl, Option.some.inj h3⟩
  have hPc : va_P D classes wc H := fun k q hq => by
    obtain ⟨i, -, h2⟩ := hat k q hq
    exact hP i q h2
  have hDc : va_D (fun _ => True) wc := by
    refine ⟨fun i j x z hi hj hxz => ?_, fun _ _ _ => trivial⟩
    obtain ⟨i1, h1, h2⟩ := hat i x hi
    obtain ⟨j1, h3, h4⟩ := hat j z hj
    have hij := hD.1 i1 j1 x z h2 h4 hxz
    subst hij
    exact va_nd_inj isC hnd i j i1 h1 h3
  have hFc : ∀ q, va_A wc H.size q → A q := by
    rintro q (⟨k, ee, h9⟩ | h9)
    · obtain ⟨i, -, h2⟩ := hat k (q, ee) h9
      exact hBA q (hD.2 i (q, ee) h2)
    · exact hA q (Nat.le_trans hS.1 h9)
  have hS0 : va_S A0 s.heap H locs := ⟨hS.1, fun q h1 h2 => hS.2.1 q h1 (fun z => h2 (hA0 q z)), fun q h1 => hA0 _ (hS.2.2 q h1)⟩
  have hr := va_runVX (e := e) (below := below) (rest := rest) K V hR (hM H.size) (H := H) (locs := locs) (As := As) (b := b) (g := F0 m pc ls (As.reverse ++ .ref b :: rest)) ⟨sk_PX.blind, va_recv K.2.2.2.2.2.1 hPc hcl hrc, fun U hU hW => ⟨rfl, ⟨⟨by rw [hU], by rw [hU]; exact hPc, va_K.moved hW.alike K.2.2.2.2.2.1, hDc, K.2.2.2.2.2.2.2.warm hW⟩, hX.to hW hS0 hU (fun q z => hA0 q (hFc q z))⟩, h⟩⟩ rfl hn hl.1 rfl (lv_room hw) (T.at ti hd) hcap
  intro T0 hT0 X0
  rcases hr T0 hT0 X0 with ⟨v, st₀, t1, T', L, h0, X', hL, e1, e2, hq, stp⟩ | ⟨x, st₀, t1, T', L, h0, X', hL, e1, e2, hq, stp⟩
  · rcases hq with ⟨r, u, hv, hpost, hB, hz, hk⟩ | ⟨x, k, hv, -⟩
    · cases hv
      rw [h0] at hz hk
      have hS1 : va_S A s.heap T'.heap (locs ++ L) := ⟨Nat.le_trans hS.1 (by rw [e1]; exact hz), fun q h1 h2 => by rw [e1, hk q (Nat.lt_of_lt_of_le h1 hS.1) (fun z => h2 (hFc q z))]; exact hS.2.1 q h1 h2, fun q hq => by
        rcases List.mem_append.mp hq with h9 | h9
        · exact hS.2.2 q h9
        · exact hFc _ (hL q h9)⟩
      obtain ⟨hP1, hK1, hD1⟩ := hB
      obtain ⟨hP2, hD2⟩ := sk_join (H1 := T'.heap) hP hD hC hmx (hadr u) (fun q h1 h2 => by rw [e1]; exact hk q h1 h2) (by rw [e1]; exact hP1)
      obtain ⟨t2, a1, b1⟩ := kk r u hpost hA T'.heap (locs ++ L) ls hP2 hD2 hS1 hl T' rfl X'
      exact ⟨t2, stp t2 a1, b1⟩
    · cases hv
  · rcases hq with ⟨r, u, hv, -⟩ | ⟨x', k, hv, hex, hE, hz, hk⟩
    · cases hv
    · cases hv
      rw [h0] at hz hk
      have hS1 : va_S A s.heap T'.heap (locs ++ L) := ⟨Nat.le_trans hS.1 (by rw [e1]; exact hz), fun q h1 h2 => by rw [e1, hk q (Nat.lt_of_lt_of_le h1 hS.1)]; exact hS.2.1 q h1 h2, fun q hq => by
        rcases List.mem_append.mp hq with h9 | h9
        · exact hS.2.2 q h9
        · exact hFc _ (hL q h9)⟩
      have hP2 : va_P D classes ws T'.heap := hP.kept (fun k q hq => by rw [e1]; exact hk q.1 (hP k q hq).lt)
      obtain ⟨ce, hc1, hc2, hc3⟩ := hE
      obtain ⟨t2, a1, b1⟩ := kx k hex hA T'.heap (locs ++ L) ls rest _ T' rfl X' hP2 hD hS1 hl ⟨ce, by rw [e1]; exact hc1, hc2, by rw [e2]; exact hc3⟩
      exact ⟨t2, stp t2 a1, b1⟩
theorem CX_call_v (K : sk_C p s m args meth c cc nL own D tys) (hBA : ∀ q : Nat, B q → A q) (T : sk_T cc t) (ti : Nat) (isC : List Nat) (mx : List (Option Nat)) {post : S → Prop} {exn : Nat → Prop} (V : sk_V own index y bytes maxL ret n C) (hR : sk_RX rm R maxL) (hX : sk_X A0 s s.heap) (hA0 : ∀ q : Nat, A q → A0 q) (hM : ∀ sz : Nat, MetX l y (Cond.code y bytes maxL ret :: GW) rm (va_Pc (.ref b :: As) (fun U => sk_PX D tys wc sz U ∧ wpc)) (QXv post exn (fun u t => sk_B D tys (wl u) (va_A wc sz) t) (va_A wc sz)) 1 6 (va_A wc sz)) (h : wpc) (hd : t[ti]? = some (pc, .invokevirtual index, 3)) (hp : pc + 3 = pc') (hs : st = As.reverse ++ .ref b :: rest) (hn : As.length = n) (hC : isC.map (fun i => ws[i]?) = wc.map some) (hadr : ∀ u, (wl u).map (·.1) = wc.map (·.1)) (hnd : va_nd isC = true) (hmx : (List.range mx.length).map (fun k => sk_ix isC k 0) = mx) (hw : (rest.map fun v => v.category).sum ≤ 8) (hcap : cells + 1 ≤ R.cells ∧ slots + 6 ≤ R.slots) {q0 ci : Nat} {fs : List Value} {Tt : u_T} {Nn : Nat} (hrc : wc[q0]? = some (b, .inr (ci, fs))) (hcl : classes[ci]? = some (C, Tt, Nn))
    (kk : ∀ (u : S), post u → AW p l e R s m args below meth c D A B nL Q cells slots (sk_mix ws mx (wl u)) lv pc' (rest)) (kx : ∀ k : Nat, exn k → AXW p l e R s m args below meth c D A B nL Q (cells + 1) (slots + 6) ws lv pc k) : AW p l e R s m args below meth c D A B nL Q cells slots ws lv pc st := by
  subst hp; subst hs
  intro hA H locs ls hP hD hS hl
  have hat : ∀ (k : Nat) (q : Nat × va_E), wc[k]? = some q → ∃ i : Nat, isC[k]? = some i ∧ ws[i]? = some q := by
    intro k q hq
    have h3 : (isC.map (fun i => ws[i]?))[k]? = some (some q) := by rw [hC, List.getElem?_map, hq]; rfl
    rw [List.getElem?_map] at h3
    cases hi : isC[k]? with
    | none => rw [hi] at h3; cases h3
    | some i => rw [hi] at h3; exact ⟨i, rfl, Option.some.inj h3⟩
  have hPc : va_P D classes wc H := fun k q hq => by
    obtain ⟨i, -, h2⟩ := hat k q hq
    exact hP i q h2
  have hDc : va_D (fun _ => True) wc := by
    refine ⟨fun i j x z hi hj hxz => ?_, fun _ _ _ => trivial⟩
    obtain ⟨i1, h1, h2⟩ := hat i x hi
    obtain ⟨j1, h3, h4⟩ := hat j z hj
    have hij := hD.1 i1 j1 x z h2 h4 hxz
    subst hij
    exact va_nd_inj isC hnd i j i1 h1 h3
  have hFc : ∀ q, va_A wc H.size q → A q := by
    rintro q (⟨k, ee, h9⟩ | h9)
    · obtain ⟨i, -, h2⟩ := hat k (q, ee) h9
      exact hBA q (hD.2 i (q, ee) h2)
    · exact hA q (Nat.le_trans hS.1 h9)
  have hS0 : va_S A0 s.heap H locs := ⟨hS.1, fun q h1 h2 => hS.2.1 q h1 (fun z => h2 (hA0 q z)), fun q h1 => hA0 _ (hS.2.2 q h1)⟩
  have hr := va_runVX (e := e) (below := below) (rest := rest) K V hR (hM H.size) (H := H) (locs := locs) (As := As) (b := b) (g := F0 m pc ls (As.reverse ++ .ref b :: rest)) ⟨sk_PX.blind, va_recv K.2.2.2.2.2.1 hPc hcl hrc, fun U hU hW => ⟨rfl, ⟨⟨by rw [hU], by rw [hU]; exact hPc, va_K.moved hW.alike K.2.2.2.2.2.1, hDc, K.2.2.2.2.2.2.2.warm hW⟩, hX.to hW hS0 hU (fun q z => hA0 q (hFc q z))⟩, h⟩⟩ rfl hn hl.1 rfl (lv_room hw) (T.at ti hd) hcap
  intro T0 hT0 X0
  rcases hr T0 hT0 X0 with ⟨v, st₀, t1, T', L, h0, X', hL, e1, e2, hq, stp⟩ | ⟨x, st₀, t1, T', L, h0, X', hL, e1, e2, hq, stp⟩
  · rcases hq with ⟨u, hv, hpost, hB, hz, hk⟩ | ⟨x, k, hv, -⟩
    · cases hv
      rw [h0] at hz hk
      have hS1 : va_S A s.heap T'.heap (locs ++ L) := ⟨Nat.le_trans hS.1 (by rw [e1]; exact hz), fun q h1 h2 => by rw [e1, hk q (Nat.lt_of_lt_of_le h1 hS.1) (fun z => h2 (hFc q z))]; exact hS.2.1 q h1 h2, fun q hq => by
        rcases List.mem_append.mp hq with h9 | h9
        · exact hS.2.2 q h9
        · exact hFc _ (hL q h9)⟩
      obtain ⟨hP1, hK1, hD1⟩ := hB
      obtain ⟨hP2, hD2⟩ := sk_join (H1 := T'.heap) hP hD hC hmx (hadr u) (fun q h1 h2 => by rw [e1]; exact hk q h1 h2) (by rw [e1]; exact hP1)
      obtain ⟨t2, a1, b1⟩ := kk u hpost hA T'.heap (locs ++ L) ls hP2 hD2 hS1 hl T' rfl X'
      exact ⟨t2, stp t2 a1, b1⟩
    · cases hv
  · rcases hq with ⟨u, hv, -⟩ | ⟨x', k, hv, hex, hE, hz, hk⟩
    · cases hv
    · cases hv
      rw [h0] at hz hk
      have hS1 : va_S A s.heap T'.heap (locs ++ L) := ⟨Nat.le_trans hS.1 (by rw [e1]; exact hz), fun q h1 h2 => by rw [e1, hk q (Nat.lt_of_lt_of_le h1 hS.1)]; exact hS.2.1 q h1 h2, fun q hq => by
        rcases List.mem_append.mp hq with h9 | h9
        · exact hS.2.2 q h9
        · exact hFc _ (hL q h9)⟩
      have hP2 : va_P D classes ws T'.heap := hP.kept (fun k q hq => by rw [e1]; exact hk q.1 (hP k q hq).lt)
      obtain ⟨ce, hc1, hc2, hc3⟩ := hE
      obtain ⟨t2, a1, b1⟩ := kx k hex hA T'.heap (locs ++ L) ls rest _ T' rfl X' hP2 hD hS1 hl ⟨ce, by rw [e1]; exact hc1, hc2, by rw [e2]; exact hc3⟩
      exact ⟨t2, stp t2 a1, b1⟩
theorem CX_i6 (K : sk_C p s m args meth c cc nL own D tys) (hBA : ∀ q : Nat, B q → A q) (T : sk_T cc t) (ti : Nat) (isC : List Nat) (mx : List (Option Nat)) {B1 B2 B3 B4 B5 B6 : Type} {post : Int32 → B1 → B2 → B3 → B4 → B5 → B6 → Prop} {exn : Nat → Prop} {wl ws' : B1 → B2 → B3 → B4 → B5 → B6 → va_W} (V : sk_V own index y bytes maxL ret n C) (hR : sk_RX rm R maxL) (hX : sk_X A0 s s.heap) (hA0 : ∀ q : Nat, A q → A0 q) (hM : ∀ sz : Nat, MetX l y (Cond.code y bytes maxL ret :: GW) rm (va_Pc (.ref b :: As) (fun U => sk_PX D tys wc sz U ∧ wpc)) (QXi (fun (r : Int32) (u : B1 × B2 × B3 × B4 × B5 × B6) => post r u.1 u.2.1 u.2.2.1 u.2.2.2.1 u.2.2.2.2.1 u.2.2.2.2.2) exn (fun u t => sk_B D tys (wl u.1 u.2.1 u.2.2.1 u.2.2.2.1 u.2.2.2.2.1 u.2.2.2.2.2) (va_A wc sz) t) (va_A wc sz)) 1 6 (va_A wc sz)) (h : wpc) (hd : t[ti]? = some (pc, .invokevirtual index, 3)) (hp : pc + 3 = pc') (hs : st = As.reverse ++ .ref b :: rest) (hn : As.length = n) (hC : isC.map (fun i => ws[i]?) = wc.map some) (hadr : ∀ (b1 : B1) (b2 : B2) (b3 : B3) (b4 : B4) (b5 : B5) (b6 : B6), (wl b1 b2 b3 b4 b5 b6).map (·.1) = wc.map (·.1)) (hnd : va_nd isC = true) (hmx : (List.range mx.length).map (fun k => sk_ix isC k 0) = mx) (hw : (rest.map fun v => v.category).sum ≤ 8) (hcap : cells + 1 ≤ R.cells ∧ slots + 6 ≤ R.slots) {q0 ci : Nat} {fs : List Value} {Tt : u_T} {Nn : Nat} (hrc : wc[q0]? = some (b, .inr (ci, fs))) (hcl : classes[ci]? = some (C, Tt, Nn)) (hws : ∀ (b1 : B1) (b2 : B2) (b3 : B3) (b4 : B4) (b5 : B5) (b6 : B6), sk_mix ws mx (wl b1 b2 b3 b4 b5 b6) = ws' b1 b2 b3 b4 b5 b6)
    (kk : ∀ (r : Int32) (b1 : B1) (b2 : B2) (b3 : B3) (b4 : B4) (b5 : B5) (b6 : B6), post r b1 b2 b3 b4 b5 b6 → AW p l e R s m args below meth c D A B nL Q cells slots (ws' b1 b2 b3 b4 b5 b6) lv pc' (.int r :: rest)) (kx : ∀ k : Nat, exn k → AXW p l e R s m args below meth c D A B nL Q (cells + 1) (slots + 6) ws lv pc k) : AW p l e R s m args below meth c D A B nL Q cells slots ws lv pc st :=
  CX_call_i (S := B1 × B2 × B3 × B4 × B5 × B6) (wl := fun u => wl u.1 u.2.1 u.2.2.1 u.2.2.2.1 u.2.2.2.2.1 u.2.2.2.2.2) K hBA T ti isC mx V hR hX hA0 hM h hd hp hs hn hC (fun u => hadr u.1 u.2.1 u.2.2.1 u.2.2.2.1 u.2.2.2.2.1 u.2.2.2.2.2) hnd hmx hw hcap hrc hcl (fun r u z => by rw [hws]; exact kk r u.1 u.2.1 u.2.2.1 u.2.2.2.1 u.2.2.2.2.1 u.2.2.2.2.2 z) kx
theorem CX_v3 (K : sk_C p s m args meth c cc nL own D tys) (hBA : ∀ q : Nat, B q → A q) (T : sk_T cc t) (ti : Nat) (isC : List Nat) (mx : List (Option Nat)) {B1 B2 B3 : Type} {post : B1 → B2 → B3 → Prop} {exn : Nat → Prop} {wl ws' : B1 → B2 → B3 → va_W} (V : sk_V own index y bytes maxL ret n C) (hR : sk_RX rm R maxL) (hX : sk_X A0 s s.heap) (hA0 : ∀ q : Nat, A q → A0 q) (hM : ∀ sz : Nat, MetX l y (Cond.code y bytes maxL ret :: GW) rm (va_Pc (.ref b :: As) (fun U => sk_PX D tys wc sz U ∧ wpc)) (QXv (fun (u : B1 × B2 × B3) => post u.1 u.2.1 u.2.2) exn (fun u t => sk_B D tys (wl u.1 u.2.1 u.2.2) (va_A wc sz) t) (va_A wc sz)) 1 6 (va_A wc sz)) (h : wpc) (hd : t[ti]? = some (pc, .invokevirtual index, 3)) (hp : pc + 3 = pc') (hs : st = As.reverse ++ .ref b :: rest) (hn : As.length = n) (hC : isC.map (fun i => ws[i]?) = wc.map some) (hadr : ∀ (b1 : B1) (b2 : B2) (b3 : B3), (wl b1 b2 b3).map (·.1) = wc.map (·.1)) (hnd : va_nd isC = true) (hmx : (List.range mx.length).map (fun k => sk_ix isC k 0) = mx) (hw : (rest.map fun v => v.category).sum ≤ 8) (hcap : cells + 1 ≤ R.cells ∧ slots + 6 ≤ R.slots) {q0 ci : Nat} {fs : List Value} {Tt : u_T} {Nn : Nat} (hrc : wc[q0]? = some (b, .inr (ci, fs))) (hcl : classes[ci]? = some (C, Tt, Nn)) (hws : ∀ (b1 : B1) (b2 : B2) (b3 : B3), sk_mix ws mx (wl b1 b2 b3) = ws' b1 b2 b3)
    (kk : ∀ (b1 : B1) (b2 : B2) (b3 : B3), post b1 b2 b3 → AW p l e R s m args below meth c D A B nL Q cells slots (ws' b1 b2 b3) lv pc' (rest)) (kx : ∀ k : Nat, exn k → AXW p l e R s m args below meth c D A B nL Q (cells + 1) (slots + 6) ws lv pc k) : AW p l e R s m args below meth c D A B nL Q cells slots ws lv pc st :=
  CX_call_v (S := B1 × B2 × B3) (wl := fun u => wl u.1 u.2.1 u.2.2) K hBA T ti isC mx V hR hX hA0 hM h hd hp hs hn hC (fun u => hadr u.1 u.2.1 u.2.2) hnd hmx hw hcap hrc hcl (fun u z => by rw [hws]; exact kk u.1 u.2.1 u.2.2 z) kx
end HX
theorem sk_tab : ∀ (L : List ExceptionTableEntry) (hs : List (Nat × Nat × Nat × Nat)), L.map (fun h => (h.startPc, h.endPc, h.handlerPc, h.catchType)) = hs → L = hs.map (fun q => ⟨q.1, q.2.1, q.2.2.1, q.2.2.2⟩)
  | [], hs, h => by subst h; rfl
  | x :: L, hs, h => by
    subst h
    exact congrArg (x :: ·) (sk_tab L _ rfl)
/-- what a method with handlers may count on -/
def sk_PH (D : va_G) (tys : List (ClassId × FieldType)) (w : va_W) (sz : Nat) (U : State) : Prop := sk_PX D tys w sz U ∧ sk_nc (excN 2) (excN 0) U ∧ sk_nc (excN 2) (excN 1) U
theorem sk_PH.blind {D : va_G} {tys : List (ClassId × FieldType)} {w : va_W} {sz : Nat} {av : List Value} {P : Prop} : FrameBlind (va_Pc av (fun U => sk_PH D tys w sz U ∧ P)) := fun a U g mk h => by
  obtain ⟨h0, ⟨⟨⟨h1, h2, h3, h4, h6⟩, h7⟩, h8, h9⟩, h5⟩ := h
  exact ⟨h0, ⟨⟨⟨h1, h2, va_K.moved (u := U) (U := U.calling g mk a) (Vm.Alike.refl U.vm) h3, h4, sk_N.same (s := U) (U := U.calling g mk a) rfl h6⟩, h7.calling⟩, sk_nc.moved (s := U) (U := U.calling g mk a) (Vm.Alike.refl U.vm) h8, sk_nc.moved (s := U) (U := U.calling g mk a) (Vm.Alike.refl U.vm) h9⟩, h5⟩
theorem sk_introW {l : Launch} {y : MethodName} {cc : ByteArray} {maxL : Nat} {ret : Option FieldType} {hh : List (Nat × Nat × Nat × Nat)} {rm : Room} {D : va_G} {tys : List (ClassId × FieldType)} {w0 : va_W} {av : List Value} {sz : Nat} {wp : Prop} {Qc : Array Value → State → Outcome → State → Prop} {mc ms : Nat} (hy : plainName y.cls = true) (hlen : (lg_sl av).length ≤ maxL)
    (body : ∀ (p : Program) (e : Env) (s : State) (m : MethodId) (below : List Frame) (meth : Method) (c : Code), sk_C p s m av.toArray meth c cc maxL y.cls D tys → sk_X (va_A w0 sz) s s.heap → sk_nc (excN 2) (excN 0) s → sk_nc (excN 2) (excN 1) s → c.exceptionTable.toList = hh.map (fun q => ⟨q.1, q.2.1, q.2.2.1, q.2.2.2⟩) → meth.sig.returnType = ret → s.heap.size = sz → wp → AW p l e rm s m av.toArray below meth c D (va_A w0 sz) (va_A w0 sz) maxL (MQ below Qc av.toArray s mc ms (va_A w0 sz)) 0 0 w0 (lv_args 0 av) 0 []) :
    Met l y (Cond.codeWith y cc maxL ret hh :: GW) rm (va_Pc av (fun U => sk_PH D tys w0 sz U ∧ wp)) Qc mc ms (va_A w0 sz) := by
  refine va_MetW (cc := cc) (maxL := maxL) (ret := ret) (hh := hh) hy rfl ?_
  intro p e s m args below meth c s₁ B hml hv
  obtain ⟨rfl, ⟨⟨⟨hsz, hP, hK, hD0, hN⟩, hX⟩, hn1, hn2⟩, hwp⟩ := hv
  have hts := atoms_spec (ws := Cond.codeWith y cc maxL ret hh :: GW) B.pre
  have hown : s.vm.findClass y.cls = some m.cls := findClass_of_methodNamed B.named
  have htab : c.exceptionTable.toList = hh.map (fun q => ⟨q.1, q.2.1, q.2.2.1, q.2.2.2⟩) := by
    obtain ⟨m9, meth9, c9, h1, h2, h3, -, -, h4, -⟩ := Cond.codeWith_spec (hts _ List.mem_cons_self)
    cases B.named.symm.trans h1
    cases B.method.symm.trans h2
    cases (Stand.of_body B).code.symm.trans h3
    exact sk_tab _ _ h4
  have hl := lv_entry av (n := maxL) hlen
  rw [lg_entry_eq]
  generalize (lg_sl av ++ List.replicate (maxL - (lg_sl av).length) Slot.unset).toArray = ls at hl ⊢
  exact body p e s m below meth c ⟨B.exec, B.bytes, hml, hown, fun w hw => hts w (List.mem_cons_of_mem _ hw), hK, B.notSynchronized, hN⟩ hX hn1 hn2 htab B.returns hsz hwp (fun q hq => Or.inr (by rw [← hsz]; exact hq)) s.heap [] ls hP (hD0.self (sz := sz)) va_S.rf hl
theorem z_with : goodWord (.codeWith ⟨"a", "b", "c"⟩ ⟨#[]⟩ 1 none []) = true := by decide +kernel

