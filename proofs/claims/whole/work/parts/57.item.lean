/-! PURE PART XXXI: a node's items in their order -/
/-- y is an item of node n: an edge, or 100 and a neighbour's number -/
def Rk (an oe : Nat → Int32) (c n y : Nat) : Prop := (y < 100 ∧ oe y = nI n) ∨ (100 ≤ y ∧ y < 100 + c ∧ (nI (y - 100) = an n ∨ an (y - 100) = nI n))
/-- the item's name -/
def dec (y : Nat) : Int32 := if y < 100 then nI y else (-2) - nI (y - 100)
theorem cnt_mon {P : Nat → Prop} {a b : Nat} (h : a ≤ b) : cnt a P ≤ cnt b P := by
  induction b with
  | zero => have : a = 0 := by omega
            rw [this]; omega
  | succ b ih =>
    by_cases z : a = b + 1
    · rw [z]; omega
    · have := ih (by omega)
      rw [cnt_succ]; omega
theorem cnt_nth_uni {P : Nat → Prop} {a b : Nat} (pa : P a) (pb : P b) (e : cnt a P = cnt b P) : a = b := by
  rcases Nat.lt_trichotomy a b with z | z | z
  · have := cnt_step z pa; omega
  · exact z
  · have := cnt_step z pb; omega
section
variable {an oe : Nat → Int32} {c n i y : Nat} {post : Int32 → Prop}
theorem sp_findNeighbour (hc : c ≤ 98) (hn : n < c) (hi : i < 1000) (h100 : 100 ≤ y) (ry : Rk an oe c n y) (cy : cnt y (Rk an oe c n) = i) (h : post (nI (y - 100))) : wp_Nodes_findNeighbour an (nI c) (nI n) (nI (i - cnt 100 (Rk an oe c n))) post := by
  have y1 : y < 100 + c := by
    rcases ry with k | k <;> omega
  unfold wp_Nodes_findNeighbour
  refine for2b c (fun k left => left = nI (i - cnt (100 + k) (Rk an oe c n)) ∧ 100 + k ≤ y) (by omega) 0 _ (by omega) ⟨rfl, by omega⟩ (fun K k left hk hJ nx => ⟨fun z => ?_, fun z => ?_⟩)
  · rw [zI_le (by omega) (by omega)] at z
    omega
  · rw [zI_le (by omega) (by omega)] at z
    obtain ⟨rfl, ky⟩ := hJ
    have ik : vp_in (nI k) 98 := (in_nI (by omega)).mpr (by omega)
    rw [ix_nI (k := n) (by omega), ix_nI (k := k) (by omega), zI_succ]
    have le := cnt_mon (P := Rk an oe c n) ky
    have suc : cnt (100 + (k + 1)) (Rk an oe c n) = cnt (100 + k) (Rk an oe c n) + pr (Rk an oe c n (100 + k)) := cnt_succ (100 + k) _
    have e0 : nI (i - cnt (100 + k) (Rk an oe c n)) = 0 ↔ cnt (100 + k) (Rk an oe c n) = i := by
      rw [L0, zI_eq (by omega) (by omega)]; omega
    have sub : 100 + k - 100 = k := by omega
    -- an item here
    have here : Rk an oe c n (100 + k) → (¬ nI (i - cnt (100 + k) (Rk an oe c n)) = 0 → K (nI (i - cnt (100 + k) (Rk an oe c n)) + (-1)) (nI (k + 1))) ∧ (nI (i - cnt (100 + k) (Rk an oe c n)) = 0 → post (nI k)) := fun rk => by
      rw [e0]
      refine ⟨fun t => ?_, fun t => ?_⟩
      · have ne : 100 + k ≠ y := fun s => t (by rw [s]; exact cy)
        have l2 := cnt_mon (P := Rk an oe c n) (show 100 + (k + 1) ≤ y by omega)
        rw [suc, pr_t rk] at l2
        refine nx (by omega) _ ⟨?_, by omega⟩
        have : i - cnt (100 + k) (Rk an oe c n) = (i - cnt (100 + (k + 1)) (Rk an oe c n)) + 1 := by rw [suc, pr_t rk]; omega
        rw [this, dn1]
      · have := cnt_nth_uni rk ry (t.trans cy.symm)
        have : k = y - 100 := by omega
        rw [this]; exact h
    have skip : ¬ Rk an oe c n (100 + k) → K (nI (i - cnt (100 + k) (Rk an oe c n))) (nI (k + 1)) := fun nr => nx (by omega) _ ⟨by rw [suc, pr_f nr]; rfl, by
      have : 100 + k ≠ y := fun s => nr (s ▸ ry)
      omega⟩
    refine ⟨(in_nI (by omega)).mpr (by omega), fun t => here (Or.inr ⟨by omega, by omega, by rw [sub]; exact Or.inl t⟩), fun t => ⟨ik, fun s => skip ?_, fun s => here (Or.inr ⟨by omega, by omega, by rw [sub]; exact Or.inr s⟩)⟩⟩
    rintro (r | ⟨-, -, r⟩)
    · omega
    · rw [sub] at r
      exact r.elim t s
theorem sp_findItem (hc : c ≤ 98) (hn : n < c) (hi : i < 1000) (ry : Rk an oe c n y) (cy : cnt y (Rk an oe c n) = i) (h : post (dec y)) : wp_Nodes_findItem an oe (nI c) (nI n) (nI i) post := by
  unfold wp_Nodes_findItem
  refine for2b 100 (fun k left => left = nI (i - cnt k (Rk an oe c n)) ∧ k ≤ y) (by omega) 0 _ (by omega) ⟨rfl, by omega⟩ (fun K k left hk hJ nx => ⟨fun z => ?_, fun z => ?_⟩)
  · rw [L100, zI_le (by omega) (by omega)] at z
    obtain ⟨rfl, ky⟩ := hJ
    have : k = 100 := by omega
    subst this
    refine sp_findNeighbour hc hn hi (by omega) ry cy ?_
    unfold wp_Nodes_nameNode
    unfold dec at h
    rw [if_neg (by omega)] at h
    exact h
  · rw [L100, zI_le (by omega) (by omega)] at z
    obtain ⟨rfl, ky⟩ := hJ
    rw [ix_nI (k := k) (by omega), zI_succ]
    have le := cnt_mon (P := Rk an oe c n) ky
    have suc := cnt_succ k (Rk an oe c n)
    have rk : oe k = nI n ↔ Rk an oe c n k := ⟨fun t => Or.inl ⟨by omega, t⟩, fun t => by
      rcases t with t | t
      · exact t.2
      · omega⟩
    rw [rk]
    have e0 : nI (i - cnt k (Rk an oe c n)) = 0 ↔ cnt k (Rk an oe c n) = i := by
      rw [L0, zI_eq (by omega) (by omega)]; omega
    rw [e0]
    refine ⟨(in_nI (by omega)).mpr (by omega), fun nr => nx (by omega) _ ⟨by rw [suc, pr_f nr]; rfl, by
      have : k ≠ y := fun s => nr (s ▸ ry)
      omega⟩, fun r => ⟨fun t => ?_, fun t => ?_⟩⟩
    · have ne : k ≠ y := fun s => t (by rw [s]; exact cy)
      have l2 := cnt_mon (P := Rk an oe c n) (show k + 1 ≤ y by omega)
      rw [suc, pr_t r] at l2
      refine nx (by omega) _ ⟨?_, by omega⟩
      have : i - cnt k (Rk an oe c n) = (i - cnt (k + 1) (Rk an oe c n)) + 1 := by rw [suc, pr_t r]; omega
      rw [this, dn1]
    · have e := cnt_nth_uni r ry (t.trans cy.symm)
      unfold dec at h
      rw [← e, if_pos (by omega)] at h
      exact h
end
section
variable {E : Nat → Prop} {I : Nat → Nat → Prop} {kn sn an ln gn : Nat → Int32} {iN : Nat → Int64} {oe one two what piece kinds po nu up ju pa : Nat → Int32} {c sl' ct' : Nat}
/-- the reference's items of node n, by their ranks -/
theorem TR.items (g : Gr E I) (h2 : Two E I) (t : TR E I kn sn an ln gn iN oe one two what piece kinds po nu up ju pa c sl' ct') {n : Nat} (hn : n < c) :
    ∃ (q b : Nat) (w rank : Nat → Nat), q < ct' ∧ po n = nI q ∧ nI (cnt sl' (Tp piece sl' q)) = sn n ∧ WA b w what ct' ∧ b ≤ 100 ∧ sl' + 2 = b + 2 * ct' ∧
      (∀ k, Tp piece sl' q k → k < b → rank k = w k) ∧ (∀ k, Tp piece sl' q k → b ≤ k → ∃ k' q' x, pa k = nI k' ∧ k' < sl' ∧ piece k' = nI q' ∧ q' < ct' ∧ nu q' = nI x ∧ x < c ∧ rank k = 100 + x) ∧
      (∀ k, Tp piece sl' q k → Rk an oe c n (rank k)) ∧ (∀ k k', Tp piece sl' q k → Tp piece sl' q k' → rank k = rank k' → k = k') ∧ ∀ y, Rk an oe c n y → ∃ k, Tp piece sl' q k ∧ rank k = y := by
  obtain ⟨fe, se, ho, kq, sl, ct, M, e0, r, P, T, par, lst, wt, num, b, w, M', R, N, F', W, hpa, V, hbw⟩ := id t
  obtain ⟨F, h0, l0, hr, rc, O, h4, h5, h6⟩ := id R
  obtain ⟨o1, o2, o3, o4, o5, o6⟩ := id O
  obtain ⟨n1, n2, n3, n4, n5⟩ := N
  have c98 := F.ct98
  have c98' := F'.ct98
  have cc := R.cc
  have l294 := F'.sl294
  have l294' := F.sl294
  have ln' := F.len
  have b100 := F'.b100
  have hp := R.hp
  obtain ⟨q, j, hq, hj, C, ej, epo, enu, -, -⟩ := V n hn
  subst ej
  have pj := (o1 j hj).1
  -- a piece's number in the reference
  have nuq : ∀ q' j', q' < ct' → j' < c → Cor E ho piece sl sl' M M' q' (P j') → nu q' = nI (num j') := fun q' j' hq' hj' C' => by
    obtain ⟨q2, j2, x1, x2, x3, x4, x5, x6, -⟩ := V (num j') (R.lt hj')
    have : j2 = j' := R.inj x2 hj' x4
    subst this
    have := cor_inj g h2 F F' (o1 j2 hj').1 x1 hq' x3 C'
    rw [← this]; exact x6
  -- a joint of the piece leads to a neighbour
  have nb : ∀ k, Tp piece sl' q k → b ≤ k → ∃ j2 s, j2 < c ∧ Tp ho sl (P j) s ∧ Mt E M' M k s ∧ 100 ≤ s ∧ ((1 ≤ j2 ∧ T j2 = ptb 100 s ∧ par j2 = j) ∨ (1 ≤ j ∧ s = T j ∧ j2 = par j)) ∧ nu (en piece (en pa k)) = nI (num j2) ∧ ∃ q', q' < ct' ∧ Tp piece sl' q' (ptb b k) := fun k tk hb => by
    have lk := F'.lv tk (by omega)
    obtain ⟨s, ts, ms⟩ := cor_slot g h2 F F' pj hq C tk
    have s100 := (mt_edge F F' lk (F.lv ts (by omega)) ms).2 hb
    obtain ⟨q', hq', tq', -, -⟩ := F'.other (by omega) tk hb
    have pt := mt_pt F F' lk (F.lv ts (by omega)) ms hb
    have kl := tq'.1
    have epa : en piece (en pa k) = q' := by
      unfold en
      rw [hpa k hb tk.1, ix_nI (by omega), tq'.2, ix_nI (by omega)]
    by_cases m : M s e0
    · have jn : j ≠ 0 := fun z => by
        rw [z, o3.2] at ts
        exact LR.up0 F h0 hr rc s100 ts m
      obtain ⟨a1, a2, a3, a4, a5⟩ := o4 j (by omega) hj
      have es : s = T j := F.uni (by omega) ts a2 h0 m a3
      refine ⟨par j, s, by omega, ts, ms, s100, Or.inr ⟨by omega, es, rfl⟩, ?_, q', hq', tq'⟩
      rw [epa]
      exact nuq q' (par j) hq' (by omega) ⟨_, _, tq', by rw [es]; exact a5, pt⟩
    · obtain ⟨j2, x1, x2, x3, x4⟩ := o5 j s hj s100 ts m
      obtain ⟨a1, a2, a3, a4, a5⟩ := o4 j2 x1 x2
      refine ⟨j2, s, x2, ts, ms, s100, Or.inl ⟨x1, x3, x4⟩, ?_, q', hq', tq'⟩
      rw [epa]
      exact nuq q' j2 hq' x2 ⟨_, _, tq', by rw [← x3]; exact a2, pt⟩
  refine ⟨q, b, w, fun k => if k < b then w k else 100 + en nu (en piece (en pa k)), hq, epo, ?_, W, b100, F'.len, fun k _ hb => if_pos hb, fun k tk hb => ?_, fun k tk => ?_, fun k k' tk tk' e => ?_, fun y ry => ?_⟩
  · rw [(n1 j hj).2.1, cor_size g h2 F F' pj hq C]
  · obtain ⟨j2, s, hj2, -, -, -, -, e, q', hq', tq'⟩ := nb k tk hb
    have lj := R.lt hj2
    have kl := tq'.1
    have epa : en piece (en pa k) = q' := by
      unfold en
      rw [hpa k hb tk.1, ix_nI (by omega), tq'.2, ix_nI (by omega)]
    rw [epa] at e
    refine ⟨ptb b k, q', num j2, hpa k hb tk.1, kl, tq'.2, hq', e, lj, ?_⟩
    dsimp only
    rw [if_neg (by omega), epa]
    unfold en
    rw [e, ix_nI (by omega)]
  · dsimp only
    by_cases z : k < b
    · rw [if_pos z]
      have lk := F'.lv tk (by omega)
      obtain ⟨s, ts, ms⟩ := cor_slot g h2 F F' pj hq C tk
      obtain ⟨e1, e2⟩ := (mt_edge F F' lk (F.lv ts (by omega)) ms).1 z
      rw [← e1]
      exact Or.inl ⟨e2, n4 s j e2 hj ts⟩
    · obtain ⟨j2, s, hj2, ts, ms, s100, cs, e, -⟩ := nb k tk (by omega)
      have lj := R.lt hj2
      have : en nu (en piece (en pa k)) = num j2 := by
        show ix (nu (en piece (en pa k))) = _
        rw [e, ix_nI (by omega)]
      rw [if_neg z, this]
      refine Or.inr ⟨by omega, by omega, ?_⟩
      rw [show 100 + num j2 - 100 = num j2 by omega]
      rcases cs with ⟨x1, x2, x3⟩ | ⟨x1, x2, x3⟩
      · exact Or.inr (by rw [(n3 j2 x1 hj2).1, x3])
      · exact Or.inl (by rw [(n3 j x1 hj).1, x3])
  · dsimp only at e
    have lk := F'.lv tk (by omega)
    have lk' := F'.lv tk' (by omega)
    by_cases z : k < b <;> by_cases z' : k' < b
    · rw [if_pos z, if_pos z'] at e
      obtain ⟨s, ts, ms⟩ := cor_slot g h2 F F' pj hq C tk
      obtain ⟨s', ts', ms'⟩ := cor_slot g h2 F F' pj hq C tk'
      have a := ((mt_edge F F' lk (F.lv ts (by omega)) ms).1 z).1
      have b' := ((mt_edge F F' lk' (F.lv ts' (by omega)) ms').1 z').1
      have : s = s' := by rw [a, b', e]
      subst this
      exact mt_uni' g h2 F' lk lk' ms ms'
    · rw [if_pos z, if_neg z'] at e
      have := (W.1 k z).2
      omega
    · rw [if_neg z, if_pos z'] at e
      have := (W.1 k' z').2
      omega
    · rw [if_neg z, if_neg z'] at e
      obtain ⟨j2, s, hj2, ts, ms, s100, cs, en2, -⟩ := nb k tk (by omega)
      obtain ⟨j3, s', hj3, ts', ms', s100', cs', en3, -⟩ := nb k' tk' (by omega)
      have l2 := R.lt hj2
      have l3 := R.lt hj3
      have a2 : en nu (en piece (en pa k)) = num j2 := by
        show ix (nu (en piece (en pa k))) = _
        rw [en2, ix_nI (by omega)]
      have a3 : en nu (en piece (en pa k')) = num j3 := by
        show ix (nu (en piece (en pa k'))) = _
        rw [en3, ix_nI (by omega)]
      have ej : j2 = j3 := R.inj hj2 hj3 (by omega)
      subst ej
      have es : s = s' := by
        rcases cs with ⟨x1, x2, x3⟩ | ⟨x1, x2, x3⟩ <;> rcases cs' with ⟨y1, y2, y3⟩ | ⟨y1, y2, y3⟩
        · have p1 := (ptb_inv s100).2.1
          have p2 := (ptb_inv s100').2.1
          rw [← p1, ← x2, y2, p2]
        · have := hp j2 x1 hj2
          have := hp j y1 hj
          omega
        · have := hp j2 y1 hj2
          have := hp j x1 hj
          omega
        · rw [x2, y2]
      subst es
      exact mt_uni' g h2 F' lk lk' ms ms'
  · rcases ry with ⟨y1, y2⟩ | ⟨y1, y2, y3⟩
    · -- an edge
      have lv : ho y ≠ -1 := fun k => by
        have := (n5 y y1 k).symm.trans y2
        exact zI_ne (by have := R.lt hj; omega) this.symm
      have ct1 := F.ct1
      have ls : livS ho sl y := ⟨by omega, lv⟩
      obtain ⟨p, hpp, tp⟩ := F.pc ls
      obtain ⟨j', hj', ej'⟩ := o6 p y hpp tp
      subst ej'
      have l1 := R.lt hj
      have l2 := R.lt hj'
      have e := (n4 y j' y1 hj' tp).symm.trans y2
      rw [zI_eq (by omega) (by omega)] at e
      have : j' = j := R.inj hj' hj e
      subst this
      obtain ⟨k, tk, mk⟩ := cor_slot' g h2 F F' pj hq C tp
      have lk := F'.lv tk (by omega)
      have kb : k < b := Classical.byContradiction fun z => by
        have := (mt_edge F F' lk ls mk).2 (by omega)
        omega
      exact ⟨k, tk, by dsimp only; rw [if_pos kb]; exact ((mt_edge F F' lk ls mk).1 kb).1.symm⟩
    · -- a neighbour
      have hx : y - 100 < c := by omega
      obtain ⟨q2, j2, hq2, hj2, C2, e2, -⟩ := V (y - 100) hx
      have l1 := R.lt hj
      -- the slot of the joint in this piece
      have js : ∃ s, Tp ho sl (P j) s ∧ 100 ≤ s ∧ Tp ho sl (P j2) (ptb 100 s) := by
        rcases y3 with y3 | y3
        · have jn : j ≠ 0 := fun z => by
            rw [z, h6.1, n2.1] at y3
            exact zI_ne (by omega) y3
          obtain ⟨a1, a2, a3, a4, a5⟩ := o4 j (by omega) hj
          have l3 := R.lt (show par j < c by omega)
          rw [(n3 j (by omega) hj).1, zI_eq (by omega) (by omega)] at y3
          have : j2 = par j := R.inj hj2 (by omega) (e2.trans y3)
          exact ⟨T j, a2, a1, this ▸ a5⟩
        · rw [← e2] at y3
          have jn : j2 ≠ 0 := fun z => by
            rw [z, h6.1, n2.1] at y3
            exact zI_ne (by omega) y3.symm
          obtain ⟨a1, a2, a3, a4, a5⟩ := o4 j2 (by omega) hj2
          have l3 := R.lt (show par j2 < c by omega)
          rw [(n3 j2 (by omega) hj2).1, zI_eq (by omega) (by omega)] at y3
          have : par j2 = j := R.inj (by omega) hj y3
          rw [this] at a5
          exact ⟨ptb 100 (T j2), a5, (ptb_inv a1).1, by rw [(ptb_inv a1).2.1]; exact a2⟩
      obtain ⟨s, ts, s100, ts2⟩ := js
      obtain ⟨k, tk, mk⟩ := cor_slot' g h2 F F' pj hq C ts
      have lk := F'.lv tk (by omega)
      have kb : b ≤ k := Classical.byContradiction fun z => by
        have := ((mt_edge F F' lk (F.lv ts (by omega)) mk).1 (by omega)).2
        omega
      refine ⟨k, tk, ?_⟩
      dsimp only
      rw [if_neg (by omega)]
      obtain ⟨q', hq', tq', -, -⟩ := F'.other (by omega) tk kb
      have kl := tq'.1
      have epa : en piece (en pa k) = q' := by
        unfold en
        rw [hpa k kb tk.1, ix_nI (by omega), tq'.2, ix_nI (by omega)]
      have := nuq q' j2 hq' hj2 ⟨_, _, tq', ts2, mt_pt F F' lk (F.lv ts (by omega)) mk kb⟩
      rw [epa]
      unfold en
      rw [this, e2, ix_nI (by omega)]
      omega
end
