/-! PURE PART XXVII: the reference's walk over its nodes -/
theorem ar1 {a x n v N : Nat} (h1 : a = n) (h : a + x ≤ v) (hN : v - n ≤ N) (w : 1 ≤ x) : x - 1 < N := by omega
theorem ar2 {a x n v N : Nat} (h1 : a = n) (h : a + x ≤ v) (hN : v - n ≤ N) (w : 1 ≤ x) : v - (a + x) < N := by omega
section
variable {E : Nat → Prop} {I : Nat → Nat → Prop} {fe se ho kq : Nat → Int32} {sl ct : Nat} {M : Nat → Nat → Prop} {e0 r c : Nat} {P T par lst wt num : Nat → Nat} {b : Nat} {w : Nat → Nat} {one two what piece kinds partner be : Nat → Int32} {sl' ct' : Nat} {M' : Nat → Nat → Prop} {post : Int32 → (Nat → Int32) → (Nat → Int32) → (Nat → Int32) → (Nat → Int32) → (Nat → Int32) → Prop}
theorem dfs (g : Gr E I) (h2 : Two E I) (R : CR E I fe se ho kq sl ct M e0 r c P T par lst wt num) (F' : FP E I b w one two piece kinds sl' ct' M') (W : WA b w what ct') (hpa : ∀ i, b ≤ i → i < sl' → partner i = nI (ptb b i)) (L : LBy E piece sl' M' be) :
    ∀ N j nodes (po nu up ju go : Nat → Int32) (gl : Int), num j + wt j - nodes ≤ N → j < c → (∀ x, x < nodes → NV E ho piece sl sl' ct' b M M' c P T par num po nu up ju x) → num j < nodes → (go (num j)).toInt = gl → nodes = num j + 1 + upto c par lst wt j gl →
      (∀ (po' nu' up' ju' go' : Nat → Int32), (∀ x, x < num j + wt j → NV E ho piece sl sl' ct' b M M' c P T par num po' nu' up' ju' x) → (∀ x, x < num j → go' x = go x) → ∃ n, sL7 (NumF (nI sl') what piece partner be post) n (if j = 0 then -1 else nI (num (par j))) (nI (num j + wt j)) po' nu' up' ju' go') →
      ∃ n, sL7 (NumF (nI sl') what piece partner be post) n (nI (num j)) (nI nodes) po nu up ju go := by
  obtain ⟨F, h0, l0, hr, rc, O, h4, h5, h6⟩ := id R
  obtain ⟨o1, o2, o3, o4, o5, o6⟩ := id O
  have c98 := F.ct98
  have c98' := F'.ct98
  have l294 := F'.sl294
  have cc := R.cc
  have hp := R.hp
  have sib := O1.sib F O h4
  intro N
  induction N using Nat.strongRecOn with
  | ind N ih =>
  intro j nodes po nu up ju go gl hN hj V jn hg en' cont
  have nl := num_le hp h5 h6 hj
  have pj := (o1 j hj).1
  -- node num j itself
  obtain ⟨q, j', hq, hj', C, ej, epo, enu, u0, u1⟩ := V (num j) jn
  have : j' = j := R.inj hj' hj ej
  subst this
  have ij : vp_in (nI (num j')) 110 := (in_nI (by omega)).mpr (by omega)
  have xj : ix (nI (num j')) = num j' := ix_nI (by omega)
  have eup : up (num j') = if j' = 0 then -1 else nI (num (par j')) := by
    by_cases z : j' = 0
    · rw [if_pos z]; exact (u0 z).1
    · rw [if_neg z]; exact (u1 (by omega)).1
  by_cases ex : ∃ m, 1 ≤ m ∧ m < c ∧ par m = j' ∧ gl < (lst m : Int)
  rotate_left
  · -- all below are done
    have all : upto c par lst wt j' gl = chs c par wt j' := by
      unfold upto chs
      refine sumN_congr c fun m hm => ?_
      rw [pr_congr (show (1 ≤ m ∧ par m = j' ∧ (lst m : Int) ≤ gl) ↔ (1 ≤ m ∧ par m = j') from ⟨fun k => ⟨k.1, k.2.1⟩, fun k => ⟨k.1, k.2, Int.not_lt.mp fun z => ex ⟨m, k.1, hm, k.2, z⟩⟩⟩)]
    have wj := h5.1 j' hj
    have en2 : nodes = num j' + wt j' := by omega
    obtain ⟨n, k⟩ := cont po nu up ju go (fun x hx => V x (by omega)) (fun _ _ => rfl)
    refine ⟨n + 1, ?_⟩
    refine ⟨fun z => absurd z (zI_nn (by omega)), fun _ => ?_⟩
    refine sp_nextOf g h2 R F' W L (by omega) hq hj C epo (fun z => (u0 z).2) (fun z => (u1 z).2) hg (fun i m m1 m2 m3 m4 _ _ _ _ _ => absurd ⟨m, m1, m2, m3, m4⟩ ex) (fun _ => ⟨fun _ => ⟨ij, ?_⟩, fun z => absurd (by decide) z⟩)
    rw [xj, eup, en2]
    exact k
  · -- the next piece below
    have ex2 : ∃ l, (∃ m, lst m = l ∧ 1 ≤ m ∧ m < c ∧ par m = j' ∧ gl < (lst m : Int)) ∧ ∀ l', l' < l → ¬ ∃ m, lst m = l' ∧ 1 ≤ m ∧ m < c ∧ par m = j' ∧ gl < (lst m : Int) := by
      obtain ⟨m, m1, m2, m3, m4⟩ := ex
      obtain ⟨l, -, a, d⟩ := least_of (P := fun l => ∃ m, lst m = l ∧ 1 ≤ m ∧ m < c ∧ par m = j' ∧ gl < (lst m : Int)) (p := lst m) ⟨m, rfl, m1, m2, m3, m4⟩
      exact ⟨l, a, d⟩
    clear ex
    obtain ⟨l, ⟨m, el, m1, mc, mp, mg⟩, lm⟩ := ex2
    subst el
    have mmin : ∀ m', 1 ≤ m' → m' < c → par m' = j' → gl < (lst m' : Int) → lst m ≤ lst m' := fun m' x1 x2 x3 x4 => Classical.byContradiction fun z => lm (lst m') (by omega) ⟨m', rfl, x1, x2, x3, x4⟩
    obtain ⟨a1, a2, a3, a4, a5⟩ := o4 m m1 mc
    have a5' := a5
    rw [mp] at a5'
    obtain ⟨i, ti, mt⟩ := cor_slot' g h2 F F' pj hq C a5'
    have li := F'.lv ti (by omega)
    have hb : b ≤ i := Classical.byContradiction fun y => by
      have := ((mt_edge F F' li (F.lv a5' (by omega)) mt).1 (by omega)).2
      have := (ptb_inv a1).1
      omega
    obtain ⟨bl, ll⟩ := be_lst R F' L m1 mc li mt
    obtain ⟨q1, hq1, tq1, qn1, -⟩ := F'.other (by omega) ti hb
    have i1 := ti.1
    have il := tq1.1
    have mt1 : Mt E M' M (ptb b i) (T m) := by
      have := mt_pt F F' li (F.lv a5' (by omega)) mt hb
      rw [(ptb_inv a1).2.1] at this
      exact this
    have C1 : Cor E ho piece sl sl' M M' q1 (P m) := ⟨_, _, tq1, a2, mt1⟩
    -- its number
    have lesu : les c par lst wt m = upto c par lst wt j' gl := by
      unfold les upto
      refine sumN_congr c fun m' hm' => ?_
      rw [pr_congr (show (1 ≤ m' ∧ par m' = par m ∧ lst m' < lst m) ↔ (1 ≤ m' ∧ par m' = j' ∧ (lst m' : Int) ≤ gl) from ⟨fun k => ⟨k.1, k.2.1.trans mp, Int.not_lt.mp fun z => by have := mmin m' k.1 hm' (k.2.1.trans mp) z; omega⟩, fun k => ⟨k.1, k.2.1.trans mp.symm, by omega⟩⟩)]
    have nm : num m = nodes := by
      have := h6.2 m m1 mc
      rw [mp, lesu] at this
      omega
    have A := num_A hp h5 h6 m1 mc
    rw [mp] at A
    have nlm := num_le hp h5 h6 mc
    have pm := (o1 m mc).1
    -- the joint
    obtain ⟨k, kc, ek, ik⟩ : ∃ k, k + 1 < ct' ∧ what i = (-1) - nI k ∧ (i = b + 2 * k ∨ i = b + 2 * k + 1) := by
      have ln' := F'.len
      have p := W.2 ((i - b) / 2) (by omega)
      have cs : i = b + 2 * ((i - b) / 2) ∨ i = b + 2 * ((i - b) / 2) + 1 := by omega
      refine ⟨(i - b) / 2, by omega, ?_, cs⟩
      rcases cs with e | e
      · rw [← e] at p; exact p.1
      · rw [← e] at p; exact p.2
    have pk : ptb b i = b + 2 * k ∨ ptb b i = b + 2 * k + 1 := by
      unfold ptb
      rcases ik with ik | ik
      · rw [if_pos (by omega)]; omega
      · rw [if_neg (by omega)]; omega
    -- the arrays with the new node
    have nq : ∀ x q', x < nodes → (∃ j, j < c ∧ Cor E ho piece sl sl' M M' q' (P j) ∧ num j = x) → q' < ct' → q' ≠ q1 := fun x q' hx ⟨j2, hj2, C2, e2⟩ hq' z => by
      subst z
      have pj2 := (o1 j2 hj2).1
      have := o2 _ _ hj2 mc (cor_fun g h2 F F' pj2 pm hq' C2 C1)
      rw [this] at e2
      omega
    have V1 : ∀ x, x < nodes + 1 → NV E ho piece sl sl' ct' b M M' c P T par num (upd po nodes (nI q1)) (upd nu q1 (nI nodes)) (upd up nodes (nI (num j'))) (upd ju nodes (nI k)) x := fun x hx => by
      by_cases z : x = nodes
      · subst z
        refine ⟨q1, m, hq1, mc, C1, nm, upd_at, upd_at, fun y => by omega, fun _ => ⟨by rw [upd_at, mp], ptb b i, k, tq1, mt1, pk, kc, upd_at⟩⟩
      · obtain ⟨q2, j2, y1, y2, y3, y4, y5, y6, y7, y8⟩ := V x (by omega)
        have n2 := nq x q2 (by omega) ⟨j2, y2, y3, y4⟩ y1
        refine ⟨q2, j2, y1, y2, y3, y4, ?_, ?_, ?_, ?_⟩
        · rw [upd_ne z]; exact y5
        · rw [upd_ne n2]; exact y6
        · rw [upd_ne z, upd_ne z]; exact y7
        · rw [upd_ne z, upd_ne z]; exact y8
    have wm := nlm.2
    -- the piece below and all below it, then on with this node
    have ih1 := ih (wt m - 1) (ar1 nm A.2 hN wm) m (nodes + 1) (upd po nodes (nI q1)) (upd nu q1 (nI nodes)) (upd up nodes (nI (num j'))) (upd ju nodes (nI k)) (upd (upd go (num j') (nI (lst m))) nodes (-1)) (-1) (by omega) mc V1 (by omega) (by rw [nm, upd_at]; exact n1_toInt) (by
      have : upto c par lst wt m (-1) = 0 := by
        unfold upto
        exact sumN_zero c fun m' _ => by rw [pr_f (fun z => by omega), Nat.zero_mul]
      omega) (fun po2 nu2 up2 ju2 go2 V2 g2 => by
      rw [if_neg (by omega), mp]
      have gj : go2 (num j') = nI (lst m) := by
        rw [g2 (num j') (by omega), upd_ne (by omega), upd_at]
      have up2' : upto c par lst wt j' (lst m : Int) = upto c par lst wt j' gl + wt m := by
        unfold upto
        refine sumN_ins (Q := fun m' => 1 ≤ m' ∧ par m' = j' ∧ (lst m' : Int) ≤ gl) mc (fun z => by omega) (fun m' hm' => ⟨fun z => ?_, fun z => ?_⟩)
        · by_cases y : (lst m' : Int) ≤ gl
          · exact Or.inl ⟨z.1, z.2.1, y⟩
          · have a := mmin m' z.1 hm' z.2.1 (by omega)
            refine Or.inr (Classical.byContradiction fun t => sib m' m z.1 m1 hm' mc (z.2.1.trans mp.symm) t (by omega))
        · rcases z with z | rfl
          · exact ⟨z.1, z.2.1, by omega⟩
          · exact ⟨m1, mp, by omega⟩
      refine ih (num j' + wt j' - (num m + wt m)) (ar2 nm A.2 hN wm) j' (num m + wt m) po2 nu2 up2 ju2 go2 (lst m : Int) (Nat.le_refl _) hj V2 (by omega) (by rw [gj, zI_toInt (by omega)]) (by omega) (fun po3 nu3 up3 ju3 go3 V3 g3 => cont po3 nu3 up3 ju3 go3 V3 fun x hx => ?_)
      rw [g3 x hx, g2 x (by omega), upd_ne (by omega), upd_ne (by omega)])
    obtain ⟨n, K⟩ := ih1
    refine ⟨n + 1, ?_⟩
    refine ⟨fun z => absurd z (zI_nn (by omega)), fun _ => ?_⟩
    refine sp_nextOf g h2 R F' W L (by omega) hq hj C epo (fun z => (u0 z).2) (fun z => (u1 z).2) hg (fun i' m' x1 x2 x3 x4 x5 x6 x7 x8 x9 => ?_) (fun no => absurd mg (no m m1 mc mp))
    -- it is that very slot
    have em : m' = m := by
      have y1 := x5 m m1 mc mp mg
      have y2 := mmin m' x1 x2 x3 x4
      exact Classical.byContradiction fun t => sib m' m x1 m1 x2 mc (x3.trans mp.symm) t (by omega)
    subst em
    have ei : i' = i := mt_uni' g h2 F' (F'.lv x6 (by omega)) li x8 mt
    subst ei
    refine ⟨fun z => absurd z (zI_nn (by omega)), fun _ => ⟨(in_nI (by omega)).mpr (by omega), ij, fun go1 eg1 => ?_⟩⟩
    unfold wp_Model_beyond wp_Model_begin
    rw [ix_nI (k := i') (by omega), hpa i' hb i1, ix_nI (k := ptb b i') (by omega), tq1.2]
    refine ⟨(in_nI (by omega)).mpr (by omega), (in_nI (by omega)).mpr (by omega), (in_nI (by omega)).mpr (by omega), ?_⟩
    have inn : vp_in (nI nodes) 110 := (in_nI (by omega)).mpr (by omega)
    rw [ix_nI (k := nodes) (by omega), ix_nI (k := q1) (by omega), ek, ng_ng]
    refine ⟨inn, fun po1 e1 => ⟨(in_nI (by omega)).mpr (by omega), fun nu1 e2 => ⟨inn, fun up1 e3 => ⟨inn, fun ju1 e4 => ⟨inn, fun go2 e5 => ?_⟩⟩⟩⟩⟩
    dsimp only
    rw [zI_succ, zI_pred (by omega), Nat.add_sub_cancel, e1, e2, e3, e4, e5, eg1, xj, ix_nI (k := i') (by omega), bl, ← nm]
    rw [← nm] at K
    exact K
theorem sp_number {nu0 po0 up0 ju0 go0 : Nat → Int32} (g : Gr E I) (h2 : Two E I) (R : CR E I fe se ho kq sl ct M e0 r c P T par lst wt num) (F' : FP E I b w one two piece kinds sl' ct' M') (W : WA b w what ct') (hpa : ∀ i, b ≤ i → i < sl' → partner i = nI (ptb b i)) (L : LBy E piece sl' M' be) {q0 : Nat} (hq0 : q0 < ct') (t0 : Tp piece sl' q0 0) (m0 : Mt E M' M 0 e0)
    (h : ∀ po nu up ju go, (∀ x, x < c → NV E ho piece sl sl' ct' b M M' c P T par num po nu up ju x) → post (nI c) po nu up ju go) : wp_Model_number (nI sl') what piece 0 po0 nu0 up0 ju0 partner be go0 (nI q0) post := by
  obtain ⟨F, h0, l0, hr, rc, O, h4, h5, h6⟩ := id R
  obtain ⟨o1, o2, o3, o4, o5, o6⟩ := id O
  have c98 := F.ct98
  have c98' := F'.ct98
  unfold wp_Model_number wp_Model_begin
  have i0 : vp_in 0 110 := (in_nI (k := 0) (by omega)).mpr (by omega)
  have x0 : ix 0 = 0 := ix_nI (k := 0) (by omega)
  rw [x0, ix_nI (k := q0) (by omega)]
  refine ⟨i0, fun po1 e1 => ⟨(in_nI (by omega)).mpr (by omega), fun nu1 e2 => ⟨i0, fun up1 e3 => ⟨i0, fun ju1 e4 => ⟨i0, fun go1 e5 => ?_⟩⟩⟩⟩⟩
  have C0 : Cor E ho piece sl sl' M M' q0 (P 0) := ⟨0, e0, t0, by rw [o3.2]; exact hr, m0⟩
  have n0 : num 0 = 0 := h6.1
  have V : ∀ x, x < 1 → NV E ho piece sl sl' ct' b M M' c P T par num po1 nu1 up1 ju1 x := fun x hx => by
    have : x = 0 := by omega
    subst this
    refine ⟨q0, 0, hq0, by omega, C0, n0, by rw [e1, upd_at], by rw [e2, upd_at]; rfl, fun _ => ⟨by rw [e3, upd_at], by rw [e4, upd_at]; rfl⟩, fun y => by omega⟩
  have := dfs (post := post) g h2 R F' W hpa L _ 0 1 po1 nu1 up1 ju1 go1 (-1) (Nat.le_refl _) (by omega) V (by omega) (by rw [n0, e5, upd_at]; exact n1_toInt) (by
    have : upto c par lst wt 0 (-1) = 0 := by
      unfold upto
      exact sumN_zero c fun m' _ => by rw [pr_f (fun z => by omega), Nat.zero_mul]
    omega) (fun po nu up ju go V _ => ⟨1, fun _ => ?_, fun z => absurd (by rw [if_pos rfl]; decide) z⟩)
  · rw [n0] at this
    exact this
  · rw [n0, h5.2, Nat.zero_add]
    rw [n0, h5.2, Nat.zero_add] at V
    exact h po nu up ju go V
end
