/-! THE CLAIM OUT OF ONE WALK OF THE LAW'S BODY. Your part is whole_start (and what it stands on); all else here is the same for every law, but numbers. -/
def R_law : String := "SkeletonTreeLaw"
def lw_P (b : Addr) (xs : List Int32) (args : Array Value) (s : State) : Prop := args = #[.ref b] ∧ s.IntsAt b xs ∧ xs.length ≤ 1536 ∧ (Jvm.Cond.and given_1 narrow_1).before args s = true
def lw_Q (_ : Array Value) (s : State) (o : Outcome) (t : State) : Prop := o = .returned (some (.int 1)) ∧ Framed s o t [] 1080 14071
def lw_Z (below : List Frame) (a : Array Value) (s : State) : State → Prop := fun t => ∃ o, t.status = .running ∧ Ended t below o ∧ lw_Q a s o t
/-- the law's own end, with 1 on the stack, nothing written that was there before, its room as the claim has it -/
theorem lw_ret {p : Program} {l : Launch} {e : Env} {s : State} {m : MethodId} {below : List Frame} {meth : Method} {c : Code} {b : Nat} (hx : p.tables.exec = Jvm.exec) (hb : c.code = code) (hr : meth.sig.returnType = ret) (hlocks : meth.locks = false) {pc : Nat} {H : Heap} {ls : Array Slot} (hdg : decode code pc = .ok (.ireturn, 1)) : W p l e room_1 s m #[Value.ref b] below meth c H [] 1080 14071 (lw_Z below #[Value.ref b] s) (F0 m pc ls [.int 1]) := by
  intro T hT X
  obtain ⟨fs, hret, hrun, hended, hW, hframe⟩ := X.leave (v := some (.int 1)) (hlocks := hlocks) (fun h => by rw [hr] at h; cases h)
  have hmeth' : T.vm.method? m = some meth := X.method'
  refine ⟨T.setFrames fs, ?_, .returned (some (.int 1)), hrun, hended, rfl, ⟨_, rfl⟩, hW, hframe⟩
  jvm_step X.here [X.here.top, hx, hb, hdg, hmeth', hr, ret, narrow_b1]
  (try refine ⟨rfl, ?_⟩); (try refine ⟨rfl, ?_⟩)
  first | (intro acts; rw [hret _ acts rfl rfl rfl]) | rw [hret _ _ rfl rfl rfl]
  exact Steps.refl _
/-- what holds at the law's entry: the machine, the code, the tables' words (any of lw_tbl by 'hts w (by decide +kernel)'), the script of L ints xs at the cell b, what the Statement gives of the start (any of its parts by flat_of_before) -/
def lw_At (p : Program) (s : State) (m : MethodId) (meth : Method) (c : Code) (b L : Nat) (xs : Nat → Int32) : Prop :=
  p.tables.exec = Jvm.exec ∧ c.code = code ∧ meth.sig.returnType = ret ∧ c.maxLocals = 7 ∧ s.vm.findClass R_law = some m.cls ∧ (∀ w ∈ lw_tbl, w.before #[Value.ref b] s = true) ∧ va_X b L xs s s.heap ∧ b < s.heap.size ∧ meth.locks = false ∧ (Jvm.Cond.and given_1 narrow_1).before #[Value.ref b] s = true

/-- WHAT IS LEFT: an invariant of class and reference side by side, which every call of the script keeps -/
def LawPure (L : Nat) (xs : Nat → Int32) : Prop := ∃ Inv : (Nat → Int32) → (Nat → Int32) → (Nat → Int32) → (Nat → Int64) → (Nat → Int64) → Int64 → (Nat → Int32) → (Nat → Int32) → (Nat → Int32) → (Nat → Int32) → (Nat → Int32) → (Nat → Int64) → (Nat → Int64) → Int64 → Int32 → Int32 → (Nat → Int32) → (Nat → Int32) → (Nat → Int32) → (Nat → Int32) → (Nat → Int32) → (Nat → Int32) → Int32 → (Nat → Int32) → (Nat → Int32) → (Nat → Int32) → (Nat → Int32) → (Nat → Int32) → (Nat → Int64) → (Nat → Int32) → Int32 → Int32 → Int32 → Int32 → Int32 → Int32 → (Nat → Int32) → (Nat → Int32) → Int32 → Int32 → (Nat → Int32) → (Nat → Int32) → (Nat → Int32) → (Nat → Int32) → Int32 → Int32 → (Nat → Int32) → (Nat → Int32) → (Nat → Int32) → Int32 → (Nat → Int32) → (Nat → Int32) → (Nat → Int32) → (Nat → Int32) → (Nat → Int32) → (Nat → Int32) → (Nat → Int32) → (Nat → Int64) → Prop, Inv (fun _ => 0) (fun _ => 0) (fun _ => 0) (fun _ => 0) (fun _ => 0) 0 (fun _ => 0) (fun _ => 0) (fun _ => 0) (fun _ => 0) (fun _ => 0) (fun _ => 0) (fun _ => 0) 0 100 0 (fun _ => 0) (fun _ => 0) (fun _ => 0) (fun _ => 0) (fun _ => 0) (fun _ => 0) 0 (fun _ => 0) (fun _ => 0) (fun _ => 0) (fun _ => 0) (fun _ => 0) (fun _ => 0) (fun _ => 0) 0 0 0 0 0 0 (fun _ => 0) (fun _ => 0) 0 0 (fun _ => 0) (fun _ => 0) (fun _ => 0) (fun _ => 0) 0 0 (fun _ => 0) (fun _ => 0) (fun _ => 0) 0 (fun _ => 0) (fun _ => 0) (fun _ => 0) (fun _ => 0) (fun _ => 0) (fun _ => 0) (fun _ => 0) (fun _ => 0) ∧ ∀ (j : Nat) (x_firstEnd : Nat → Int32) (x_secondEnd : Nat → Int32) (x_there : Nat → Int32) (x_graph_near : Nat → Int64) (x_graph_nearTwice : Nat → Int64) (x_graph_present : Int64) (x_pieces_firstEnd : Nat → Int32) (x_pieces_secondEnd : Nat → Int32) (x_pieces_home : Nat → Int32) (x_pieces_kindOf : Nat → Int32) (x_pieces_startAt : Nat → Int32) (x_pieces_links_near : Nat → Int64) (x_pieces_links_nearTwice : Nat → Int64) (x_pieces_links_present : Int64) (x_pieces_slots : Int32) (x_pieces_count : Int32) (x_order_row : Nat → Int32) (x_order_above : Nat → Int32) (x_order_sideUp : Nat → Int32) (x_order_number : Nat → Int32) (x_order_least : Nat → Int32) (x_order_weight : Nat → Int32) (x_order_count : Int32) (x_nodes_kindOf : Nat → Int32) (x_nodes_sizeOf : Nat → Int32) (x_nodes_above : Nat → Int32) (x_nodes_lesser : Nat → Int32) (x_nodes_greater : Nat → Int32) (x_nodes_inside : Nat → Int64) (x_nodes_ofEdge : Nat → Int32) (x_nodes_count : Int32) (x_made : Int32) (x_alive : Int32) (x_built : Int32) (m_thrown : Int32) (m_made : Int32) (m_ends : Nat → Int32) (m_there : Nat → Int32) (m_tree : Int32) (m_items : Int32) (m_one : Nat → Int32) (m_two : Nat → Int32) (m_what : Nat → Int32) (m_piece : Nat → Int32) (m_pieces : Int32) (m_joints : Int32) (m_kinds : Nat → Int32) (m_group : Nat → Int32) (m_many : Nat → Int32) (m_nodes : Int32) (m_pieceOf : Nat → Int32) (m_numberOf : Nat → Int32) (m_ups : Nat → Int32) (m_jointUp : Nat → Int32) (m_partner : Nat → Int32) (m_beyonds : Nat → Int32) (m_gone : Nat → Int32) (o : Nat → Int64), 3 * j + 2 < L → Inv x_firstEnd x_secondEnd x_there x_graph_near x_graph_nearTwice x_graph_present x_pieces_firstEnd x_pieces_secondEnd x_pieces_home x_pieces_kindOf x_pieces_startAt x_pieces_links_near x_pieces_links_nearTwice x_pieces_links_present x_pieces_slots x_pieces_count x_order_row x_order_above x_order_sideUp x_order_number x_order_least x_order_weight x_order_count x_nodes_kindOf x_nodes_sizeOf x_nodes_above x_nodes_lesser x_nodes_greater x_nodes_inside x_nodes_ofEdge x_nodes_count x_made x_alive x_built m_thrown m_made m_ends m_there m_tree m_items m_one m_two m_what m_piece m_pieces m_joints m_kinds m_group m_many m_nodes m_pieceOf m_numberOf m_ups m_jointUp m_partner m_beyonds m_gone o → ∀ k : Nat, xs (3 * j) &&& 15 = nI k → LawStep L xs (nI (3 * j)) x_firstEnd x_secondEnd x_there x_graph_near x_graph_nearTwice x_graph_present x_pieces_firstEnd x_pieces_secondEnd x_pieces_home x_pieces_kindOf x_pieces_startAt x_pieces_links_near x_pieces_links_nearTwice x_pieces_links_present x_pieces_slots x_pieces_count x_order_row x_order_above x_order_sideUp x_order_number x_order_least x_order_weight x_order_count x_nodes_kindOf x_nodes_sizeOf x_nodes_above x_nodes_lesser x_nodes_greater x_nodes_inside x_nodes_ofEdge x_nodes_count x_made x_alive x_built m_thrown m_made m_ends m_there m_tree m_items m_one m_two m_what m_piece m_pieces m_joints m_kinds m_group m_many m_nodes m_pieceOf m_numberOf m_ups m_jointUp m_partner m_beyonds m_gone o Inv k
set_option maxRecDepth 100000 in
theorem law_K {s : State} {args : Array Value} (hts : ∀ w ∈ GW, w.before args s = true) : ∃ (D : va_G) (cI cJ cZ : ClassId), va_K D classes (tyl cI cJ cZ) s := by
  obtain ⟨c0, iS0, h0⟩ := u_known (C := R_Links) (T := T_Links) (N := 3) (n := 3) (ws := GW) hts in_Links (hts _ (gw_of 71 (by decide +kernel) (by decide +kernel)))
  obtain ⟨c1, iS1, h1⟩ := u_known (C := R_Nodes) (T := T_Nodes) (N := 8) (n := 8) (ws := GW) hts in_Nodes (hts _ (gw_of 166 (by decide +kernel) (by decide +kernel)))
  obtain ⟨c2, iS2, h2⟩ := u_known (C := R_Order) (T := T_Order) (N := 7) (n := 7) (ws := GW) hts in_Order (hts _ (gw_of 133 (by decide +kernel) (by decide +kernel)))
  obtain ⟨c3, iS3, h3⟩ := u_known (C := R_Pieces) (T := T_Pieces) (N := 8) (n := 8) (ws := GW) hts in_Pieces (hts _ (gw_of 93 (by decide +kernel) (by decide +kernel)))
  obtain ⟨c4, iS4, h4⟩ := u_known (C := R_Tree) (T := T_Tree) (N := 10) (n := 10) (ws := GW) hts in_Tree (hts _ (gw_of 63 (by decide +kernel) (by decide +kernel)))
  obtain ⟨c5, iS5, h5⟩ := u_known (C := R_Model) (T := T_Model) (N := 23) (n := 23) (ws := GW) hts in_Model (hts _ (gw_of 609 (by decide +kernel) (by decide +kernel)))
  obtain ⟨cI, kcI, mcI, fcI, gcI, ecI⟩ := Cond.arrayClass_spec (hts _ (gw_of 89 (by decide +kernel) (by decide +kernel) : Cond.arrayClass .int ∈ GW))
  obtain ⟨cJ, kcJ, mcJ, fcJ, gcJ, ecJ⟩ := Cond.arrayClass_spec (hts _ (gw_of 91 (by decide +kernel) (by decide +kernel) : Cond.arrayClass .long ∈ GW))
  obtain ⟨cZ, kcZ, mcZ, fcZ, gcZ, ecZ⟩ := Cond.arrayClass_spec (hts _ (gw_of 90 (by decide +kernel) (by decide +kernel) : Cond.arrayClass .boolean ∈ GW))
  refine ⟨(fun k => if k = 0 then c0 else if k = 1 then c1 else if k = 2 then c2 else if k = 3 then c3 else if k = 4 then c4 else c5, fun k => if k = 0 then iS0 else if k = 1 then iS1 else if k = 2 then iS2 else if k = 3 then iS3 else if k = 4 then iS4 else iS5), cI, cJ, cZ, fun k q hq => ?_, fun k q hq => ?_⟩
  · match k, hq with
    | 0, hq => cases hq; exact h0
    | 1, hq => cases hq; exact h1
    | 2, hq => cases hq; exact h2
    | 3, hq => cases hq; exact h3
    | 4, hq => cases hq; exact h4
    | 5, hq => cases hq; exact h5
    | k + 6, hq => simp [classes] at hq
  · match k, hq with
    | 0, hq => cases hq; exact ⟨fun n z => ⟨fun k h => (by cases h), kcI, gcI, mcI, ecI⟩, fcI⟩
    | 1, hq => cases hq; exact ⟨fun n z => ⟨fun k h => (by cases h), kcJ, gcJ, mcJ, ecJ⟩, fcJ⟩
    | 2, hq => cases hq; exact ⟨fun n z => ⟨fun k h => (by cases h), kcZ, gcZ, mcZ, ecZ⟩, fcZ⟩
    | k + 3, hq => simp [tyl] at hq
theorem law_N {s : State} {args : Array Value} (hts : ∀ w ∈ lw_tbl, w.before args s = true) : sk_N s := fun w hw => by
  have h1 := hts w (List.mem_filter.mp hw).1
  have h2 := (List.mem_filter.mp hw).2
  cases w with
  | methodLinkNest _ _ _ _ => exact va_Nw.of rfl h1
  | castable _ _ => exact va_Nw.of rfl h1
  | declares _ => exact va_Nw.of rfl h1
  | _ => exact absurd h2 (by simp [isNest])
theorem law_nc {s : State} {args : Array Value} {a b : String} (h : (Cond.not (.castable a b)).before args s = true) : sk_nc a b s := fun cX cT h1 h2 => by
  have hv := Cond.holds_not_iff.mp h
  simp only [Cond.value, h1, h2] at hv
  exact Option.some.inj hv
theorem law_str {s : State} {args : Array Value} {own tx : String} {k : Nat} (h1 : (Cond.stringRef own k tx).before args s = true) (h2 : (Cond.exactly (.string own k) "java/lang/String").before args s = true) : ∃ a : Nat, vk_R own k tx a s := by
  obtain ⟨a, c, cA, kA, q1, -⟩ := Cond.exactly_spec (args := args) (first := s) (o := none) (s := s) (idx := []) (t := .string own k) (cls := "java/lang/String") h2
  exact ⟨a, vk_R.of h1 q1⟩
set_option maxRecDepth 100000 in
theorem law_X {s : State} {b : Nat} {A : Nat → Prop} (hts : ∀ w ∈ lw_tbl, w.before #[Value.ref b] s = true) (hgv : (Jvm.Cond.and given_1 narrow_1).before #[Value.ref b] s = true) (hA : ∀ a : Nat, a < s.heap.size → ¬ A a) : sk_X A s s.heap ∧ sk_nc (excN 2) (excN 0) s ∧ sk_nc (excN 2) (excN 1) s := by
  have hs := flat_of_before _ hgv
  have L1 : (Cond.laysStatic "java/lang/Throwable" "UNASSIGNED_STACK" "[Ljava/lang/StackTraceElement;").before #[Value.ref b] s = true := (hts _ (List.mem_of_getElem? (i := 418) (by decide +kernel)))
  have L2 : (Cond.laysStatic "java/lang/Throwable" "SUPPRESSED_SENTINEL" "Ljava/util/List;").before #[Value.ref b] s = true := (hts _ (List.mem_of_getElem? (i := 420) (by decide +kernel)))
  have I1 : (Cond.initialized "java/lang/Throwable").before #[Value.ref b] s = true := (hts _ (List.mem_of_getElem? (i := 53) (by decide +kernel)))
  refine ⟨⟨va_Zqof L1 I1 (hs _ (by decide +kernel)) hA, va_Zqof L2 I1 (hs _ (by decide +kernel)) hA, fun q hq => ?_, va_Y.of L1 hA, va_Y.of L2 hA⟩, law_nc (hs (Cond.not (.castable (excN 2) (excN 0))) (by decide +kernel)), law_nc (hs (Cond.not (.castable (excN 2) (excN 1))) (by decide +kernel))⟩
  · simp only [strs, List.mem_cons, List.not_mem_nil, or_false] at hq
    rcases hq with rfl | rfl | rfl | rfl | rfl | rfl | rfl
    · exact law_str (hts _ (List.mem_of_getElem? (i := 432) (by decide +kernel))) (hs (Cond.exactly (.string "SkeletonTree" 65) "java/lang/String") (by decide +kernel))
    · exact law_str (hts _ (List.mem_of_getElem? (i := 468) (by decide +kernel))) (hs (Cond.exactly (.string "SkeletonTree" 72) "java/lang/String") (by decide +kernel))
    · exact law_str (hts _ (List.mem_of_getElem? (i := 486) (by decide +kernel))) (hs (Cond.exactly (.string "SkeletonTree" 78) "java/lang/String") (by decide +kernel))
    · exact law_str (hts _ (List.mem_of_getElem? (i := 512) (by decide +kernel))) (hs (Cond.exactly (.string "SkeletonTree" 175) "java/lang/String") (by decide +kernel))
    · exact law_str (hts _ (List.mem_of_getElem? (i := 519) (by decide +kernel))) (hs (Cond.exactly (.string "SkeletonTree" 178) "java/lang/String") (by decide +kernel))
    · exact law_str (hts _ (List.mem_of_getElem? (i := 542) (by decide +kernel))) (hs (Cond.exactly (.string "SkeletonTree" 127) "java/lang/String") (by decide +kernel))
    · exact law_str (hts _ (List.mem_of_getElem? (i := 586) (by decide +kernel))) (hs (Cond.exactly (.string "SkeletonTree" 180) "java/lang/String") (by decide +kernel))
set_option maxHeartbeats 8000000 in
set_option maxRecDepth 100000 in
/-- the law from its entry, given the pure statement -/
theorem whole_open {p : Program} {e : Env} {s : State} {m : MethodId} {below : List Frame} {meth : Method} {c : Code} (l : Launch) (hlt : l.stackTraces = false) {b L : Nat} {xs : Nat → Int32} (hL : L ≤ 1536) (hpure : LawPure L xs) (C0 : lw_At p s m meth c b L xs) : W p l e room_1 s m #[Value.ref b] below meth c s.heap [] 0 0 (lw_Z below #[Value.ref b] s) (entryFrame m ([Value.ref b] : List Value).toArray 7) := by
  obtain ⟨hx, hb, hr, hml, hown, hts, hX0, hbl, hlocks, hgv⟩ := id C0
  obtain ⟨Inv, hI0, hstep⟩ := hpure
  have htg : ∀ w ∈ GW, w.before #[Value.ref b] s = true := fun w hw => hts w (List.mem_filter.mp hw).1
  obtain ⟨D, cI, cJ, cZ, hK⟩ := law_K htg
  have K0 : sk_C p s m #[Value.ref b] meth c code 7 "SkeletonTreeLaw" D (tyl cI cJ cZ) := ⟨hx, hb, hml, hown, htg, hK, hlocks, law_N hts⟩
  obtain ⟨hX, hn1, hn2⟩ := law_X (A := fun q => s.heap.size ≤ q) hts hgv (fun a h => Nat.not_le.mpr h)
  have hl := lv_entry ([.ref b]) (n := 7) (Nat.le_of_ble_eq_true rfl)
  rw [lg_entry_eq]
  generalize (lg_sl ([.ref b]) ++ List.replicate (7 - (lg_sl ([.ref b])).length) Slot.unset).toArray = ls at hl ⊢
  have main : AW p l e room_1 s m #[Value.ref b] below meth c D (fun q => s.heap.size ≤ q) (fun q => s.heap.size ≤ q) 7 (lw_Z below #[Value.ref b] s) 0 0 [] [(0, .ref b)] 0 [] := by
    refine law_pre K0 (by decide) (by decide) (by decide) (by decide) (fun a_x a_m a_o u v => ?_)
    refine law_loop (p := p) (l := l) (e := e) (R := room_1) (below := below) (C0 := 49) (S0 := 5837) (Q := lw_Z below #[Value.ref b] s) hL hlt K0 hX hn1 hn2 hX0 hbl (Nat.not_le.mpr hbl) (by decide) (by decide) (by decide) (by decide) Inv hstep (fun j x_firstEnd x_secondEnd x_there x_graph_near x_graph_nearTwice x_graph_present x_pieces_firstEnd x_pieces_secondEnd x_pieces_home x_pieces_kindOf x_pieces_startAt x_pieces_links_near x_pieces_links_nearTwice x_pieces_links_present x_pieces_slots x_pieces_count x_order_row x_order_above x_order_sideUp x_order_number x_order_least x_order_weight x_order_count x_nodes_kindOf x_nodes_sizeOf x_nodes_above x_nodes_lesser x_nodes_greater x_nodes_inside x_nodes_ofEdge x_nodes_count x_made x_alive x_built m_thrown m_made m_ends m_there m_tree m_items m_one m_two m_what m_piece m_pieces m_joints m_kinds m_group m_many m_nodes m_pieceOf m_numberOf m_ups m_jointUp m_partner m_beyonds m_gone o hj => ?_) (L + 4) 0 (fun _ => 0) (fun _ => 0) (fun _ => 0) (fun _ => 0) (fun _ => 0) 0 (fun _ => 0) (fun _ => 0) (fun _ => 0) (fun _ => 0) (fun _ => 0) (fun _ => 0) (fun _ => 0) 0 100 0 (fun _ => 0) (fun _ => 0) (fun _ => 0) (fun _ => 0) (fun _ => 0) (fun _ => 0) 0 (fun _ => 0) (fun _ => 0) (fun _ => 0) (fun _ => 0) (fun _ => 0) (fun _ => 0) (fun _ => 0) 0 0 0 0 0 0 (fun _ => 0) (fun _ => 0) 0 0 (fun _ => 0) (fun _ => 0) (fun _ => 0) (fun _ => 0) 0 0 (fun _ => 0) (fun _ => 0) (fun _ => 0) 0 (fun _ => 0) (fun _ => 0) (fun _ => 0) (fun _ => 0) (fun _ => 0) (fun _ => 0) (fun _ => 0) (fun _ => 0) (by omega) (by omega) hI0
    · refine A_iconst K0 d_Law_l 14 (pc' := 902) (v := 1) rfl rfl (by decide) ?_
      intro hA H locs ls hP hD hS hl
      refine va_forget (fun q hq => hS.2.2 q hq) ?_
      refine W.widen (k := 1080) (n := 14071) (by omega) (by omega) ?_
      exact lw_ret hx hb hr hlocks (sk_T.at d_Law_l 15 rfl)
  exact main (fun _ h => h) s.heap [] ls (fun k q h => by simp at h) ⟨fun i j p q h => by simp at h, fun k q h => by simp at h⟩ va_S.rf hl
set_option maxHeartbeats 4000000 in
theorem lw_walk (hpure : ∀ (L : Nat) (xs : Nat → Int32), L ≤ 1536 → LawPure L xs) (l : Launch) (hlt : l.stackTraces = false) (b : Addr) (xs : List Int32) : MetFree l x (headSpec (Jvm.Cond.code x code maxLocals ret :: tables_1) room_1) (lw_P b xs) (fun _ _ _ _ _ => True) lw_Q := by
  refine MetFree.of_bodyS (code := code) (maxLocals := maxLocals) (ret := ret) (by decide) ?_ ?_
  · intro args s m h hn
    obtain ⟨meth, c, h1, h2, h3, h4, h5, h6, -, -⟩ := Cond.code_spec hn (atoms_spec (ws := Jvm.Cond.code x code maxLocals ret :: tables_1) h _ List.mem_cons_self)
    exact ⟨meth, c, h1, h2, h3, h4, h5, h6⟩
  · intro p e s m args below meth c s₁ B hml0 hP _
    obtain ⟨rfl, hx, hbd, hgv⟩ := hP
    obtain ⟨scr, harrAt, hlist, hof, hsmall⟩ := hx
    obtain ⟨hcb, hkn, -, -⟩ := State.arrayAt?_spec harrAt
    have hown : s.vm.findClass R_law = some m.cls := findClass_of_methodNamed B.named
    have hts0 : ∀ c ∈ (Jvm.Cond.code x code maxLocals ret :: tables_1), c.before #[Value.ref b] s = true := atoms_spec (ws := Jvm.Cond.code x code maxLocals ret :: tables_1) B.pre
    have hts : ∀ w ∈ lw_tbl, w.before #[Value.ref b] s = true := k2_hts_sels lw_privs (fun w hw => hts0 w (List.mem_cons_of_mem _ hw)) lw_privs_ok
    have hml : c.maxLocals = 7 := B.maxLocals_eq (hts0 _ List.mem_cons_self)
    have X₀ : Stand p l e room_1 s m #[Value.ref b] below meth c s₁ [] 0 0 := Stand.of_body B
    have hh0 : s₁.heap = s.heap := by rw [B.state]; rfl
    have hsz : scr.slots.size = xs.length := by rw [← Array.length_toList, hlist, List.length_map]
    have hval : ∀ j : Nat, j < xs.length → scr.slots[j]? = some (.int (xs.getD j 0)) := fun j hj => by
      rw [← Array.getElem?_toList, hlist]
      simp [hj]
    have hbl : b < s.heap.size := (Array.getElem?_eq_some_iff.mp hcb).1
    have hX : va_X b xs.length (fun j => xs.getD j 0) s s.heap := ⟨scr, hcb, hof, hkn, hsz, hval⟩
    have K : W p l e room_1 s m #[Value.ref b] below meth c s₁.heap [] 0 0 (lw_Z below #[Value.ref b] s) (entryFrame m ([Value.ref b] : List Value).toArray 7) := by
      rw [hh0]
      exact whole_open l hlt hbd (hpure _ _ hbd) ⟨B.exec, B.bytes, B.returns, hml, hown, hts, hX, hbl, B.notSynchronized, hgv⟩
    obtain ⟨t, a1, o, b1, b2, b3⟩ := K s₁ rfl X₀
    exact ⟨t, o, a1, b1, b2, b3⟩
theorem lw_pre_spec {args : Array Value} {s : State} (h : (Jvm.Cond.and given_1 narrow_1).before args s = true) (hr : rest_1_c.before args s = true) : ∃ (b : Addr) (xs : List Int32), lw_P b xs args s := by
  have hs := flat_of_before _ h
  have hq := flat_of_before _ hr
  have hc : (Cond.count 1).before args s = true := hs _ (by decide +kernel)
  have harr : (Cond.arrayOf (.arg 0) .int).before args s = true := hs _ (by decide +kernel)
  have hle : (Cond.le (.length (.arg 0)) (.int 1536)).before args s = true := hs _ (by decide +kernel)
  have hlen : (Cond.isInt (.length (.arg 0))).before args s = true := hq _ (by decide +kernel)
  have hall : (Cond.all (.arg 0) (.isInt (.elem (.arg 0) (.index 0)))).before args s = true := hq _ (by decide +kernel)
  obtain ⟨b, xs, hb, hx⟩ := State.ints_of_pre rfl harr hlen hall
  have hsm : xs.length < 2 ^ 31 := hx.choose_spec.2.2.2
  have hev : (Term.length (.arg 0)).eval args s none [] s = some (.int xs.length.toInt32) := hx.length_eval hb
  have hv := Cond.le_ints hev (show (Term.int 1536).eval args s none [] s = some (.int 1536) from rfl)
  have hd : xs.length.toInt32 ≤ 1536 := by
    simpa [Cond.before, Cond.holds, hv] using hle
  have hN : xs.length ≤ 1536 := (Int32.ofNat_le_ofNat hsm (by decide)).mp (show Int32.ofNat xs.length ≤ Int32.ofNat 1536 from hd)
  exact ⟨b, xs, Cond.one_arg hc (show args[0]? = some (.ref b) from hb), hx, hN, h⟩
theorem lw_comes (hpure : ∀ (L : Nat) (xs : Nat → Int32), L ≤ 1536 → LawPure L xs) (l : Launch) (hlt : l.stackTraces = false) : Comes l x (Jvm.Cond.code x code maxLocals ret :: tables_1) room_1 (fun tb e args s => Calls_1 tb e args s ∧ rest_1 tb e args s ∧ Pre_1 tb e args s)
    (fun _ _ args s o t => lw_Q args s o t) := by
  intro p e ha hc hk s m args below hf hfit hheap happ hpre
  obtain ⟨b, xs, hP⟩ := lw_pre_spec hpre.2.2 hpre.2.1
  obtain ⟨k, o, h1, h2, h3, hQ⟩ := lw_walk hpure l hlt b xs p e ha hc hk s m args below hf ((Spec.applies_iff_loose hf).mp happ).1 hP trivial
  exact ⟨k, o, h1, h2, h3, hQ⟩
theorem lw_frame {s t : State} {o : Outcome} {args : Array Value} (h : Framed s o t [] 1080 14071) :
    Framed s o t (fieldLocs frame_1_writes args s ++ arrayLocs frame_1_arrays args s ++ staticLocs frame_1_statics s) 1080 14071 := h
theorem lw_limb (hpure : ∀ (L : Nat) (xs : Nat → Int32), L ≤ 1536 → LawPure L xs) (L : Cond) (hL : ∀ (args : Array Value) (s t : State), L.after args s (.returned (some (.int 1))) t = true) :
    ArmFor flags0 classFile x code maxLocals ret World_1 tables_1 room_1 Calls_1 rest_1 Pre_1
      (fun tb e a s o t => postC L tb e a s o t ∧ Framed s o t (fieldLocs frame_1_writes a s ++ arrayLocs frame_1_arrays a s ++ staticLocs frame_1_statics s) 1080 14071) := by
  intro l hfl _ _ p e ha hc hk s m args below hf hfit hheap happ hpre
  have hlt : l.stackTraces = false := by unfold Launch.stackTraces; rw [hfl]; decide +kernel
  obtain ⟨k, o, h1, h2, h3, rfl, hF⟩ := lw_comes hpure l hlt p e ha hc hk s m args below hf hfit hheap happ hpre
  exact ⟨k, _, h1, h2, h3, hL args s _, lw_frame hF⟩
theorem i_vc_open (hpure : ∀ (L : Nat) (xs : Nat → Int32), L ≤ 1536 → LawPure L xs) : Claimed_1_1 ∧ Claimed_1_2 := ⟨lw_limb hpure limb_1_1 (fun args s t => by simp [limb_1_1, Cond.after, Cond.holds, Cond.value]), lw_limb hpure limb_1_2 (fun args s t => Cond.after_iff.mpr (by
  first | (rw [show limb_1_2 = Cond.eq .result (.int 1) from rfl, Cond.eq_ints (x := 1) (y := 1) rfl rfl]; simp; done) | (simp [limb_1_2, Cond.value, Term.eval]; done)))⟩

