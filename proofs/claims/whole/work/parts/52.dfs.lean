/-! PURE PART XXVI: the reference numbers its nodes as the class does -/
/-- the reference's node x, in its arrays -/
def NV (E : Nat → Prop) (ho piece : Nat → Int32) (sl sl' ct' b : Nat) (M M' : Nat → Nat → Prop) (c : Nat) (P T par num : Nat → Nat) (po nu up ju : Nat → Int32) (x : Nat) : Prop :=
  ∃ q j, q < ct' ∧ j < c ∧ Cor E ho piece sl sl' M M' q (P j) ∧ num j = x ∧ po x = nI q ∧ nu q = nI x ∧ (j = 0 → up x = -1 ∧ ju x = nI 100) ∧ (1 ≤ j → up x = nI (num (par j)) ∧ ∃ t k, Tp piece sl' q t ∧ Mt E M' M t (T j) ∧ (t = b + 2 * k ∨ t = b + 2 * k + 1) ∧ k + 1 < ct' ∧ ju x = nI k)
/-- weights of the pieces below j whose least edge is at most g -/
noncomputable def upto (c : Nat) (par lst wt : Nat → Nat) (j : Nat) (g : Int) : Nat := sumN c (fun m => pr (1 ≤ m ∧ par m = j ∧ (lst m : Int) ≤ g) * wt m)
/-- the reference's walk -/
def NumF (its : Int32) (what piece partner be : Nat → Int32) (post : Int32 → (Nat → Int32) → (Nat → Int32) → (Nat → Int32) → (Nat → Int32) → (Nat → Int32) → Prop) : (Int32 → Int32 → (Nat → Int32) → (Nat → Int32) → (Nat → Int32) → (Nat → Int32) → (Nat → Int32) → Prop) → Int32 → Int32 → (Nat → Int32) → (Nat → Int32) → (Nat → Int32) → (Nat → Int32) → (Nat → Int32) → Prop :=
  fun K_14 i2_7 nodes_8 pieceOf_9 numberOf_10 ups_11 jointUp_12 gone_13 => (i2_7 < 0 → post nodes_8 pieceOf_9 numberOf_10 ups_11 jointUp_12 gone_13) ∧ (¬ i2_7 < 0 → wp_Model_nextOf its what piece pieceOf_9 jointUp_12 be gone_13 i2_7 (fun r_17 => (r_17 < 0 → vp_in i2_7 110 ∧ K_14 (ups_11 (ix i2_7)) nodes_8 pieceOf_9 numberOf_10 ups_11 jointUp_12 gone_13) ∧ (¬ r_17 < 0 → vp_in r_17 320 ∧ vp_in i2_7 110 ∧ ∀ gone_18 : Nat → Int32, gone_18 = upd gone_13 (ix i2_7) (be (ix r_17)) → wp_Model_beyond piece partner r_17 (fun r_20 => vp_in r_17 320 ∧ wp_Model_begin nodes_8 pieceOf_9 numberOf_10 ups_11 jointUp_12 gone_18 r_20 i2_7 ((-1) - (what (ix r_17))) (fun nodes_21 pieceOf_22 numberOf_23 ups_24 jointUp_25 gone_26 => K_14 (nodes_21 - 1) nodes_21 pieceOf_22 numberOf_23 ups_24 jointUp_25 gone_26)))))
theorem ng_ng (k : Nat) : (-1 : Int32) - ((-1) - nI k) = nI k := by
  rw [Int32.sub_eq_add_neg, Int32.sub_eq_add_neg, Int32.neg_add, Int32.neg_neg, Int32.sub_eq_add_neg, Int32.neg_neg, ← Int32.add_assoc]
  have : (-1 : Int32) + 1 = 0 := by decide
  rw [this, Int32.zero_add]
section
variable {E : Nat → Prop} {I : Nat → Nat → Prop} {fe se ho kq : Nat → Int32} {sl ct : Nat} {M : Nat → Nat → Prop} {e0 r c : Nat} {P T par lst wt num : Nat → Nat} {b : Nat} {w : Nat → Nat} {one two what piece kinds partner be : Nat → Int32} {sl' ct' : Nat} {M' : Nat → Nat → Prop} {po nu up ju go : Nat → Int32}
/-- the slot towards a piece below has that piece's least edge as its least beyond -/
theorem be_lst (R : CR E I fe se ho kq sl ct M e0 r c P T par lst wt num) (F' : FP E I b w one two piece kinds sl' ct' M') (L : LBy E piece sl' M' be) {i m : Nat} (m1 : 1 ≤ m) (mc : m < c) (li : livS piece sl' i) (mt : Mt E M' M i (ptb 100 (T m))) : be i = nI (lst m) ∧ lst m < 100 := by
  obtain ⟨F, h0, l0, hr, rc, O, h4, h5, h6⟩ := R
  obtain ⟨o1, o2, o3, o4, o5, o6⟩ := O
  have c98 := F.ct98
  obtain ⟨a1, a2, a3, a4, a5⟩ := o4 m m1 mc
  have pm := (o1 m mc).1
  obtain ⟨-, -, -, -, mc'⟩ := F.other (by omega) a2 a1
  obtain ⟨l, hl, bl, el, ml, le⟩ := L i li
  obtain ⟨x1, x2, x3⟩ := h4 m mc
  have d : ∀ e, E e → (M' i e ↔ Dj M T m e) := fun e he => by
    rw [mt e he, mc' e he]
    exact ⟨Or.inr, fun k => k.resolve_left (by omega)⟩
  have e1 := x3 l el ((d l el).mp ml)
  have e2 := le (lst m) x1 ((d _ x1).mpr x2)
  have : l = lst m := by omega
  exact ⟨this ▸ bl, by omega⟩
theorem sp_nextOf {n q j : Nat} {gl : Int} {post : Int32 → Prop} (g : Gr E I) (h2 : Two E I) (R : CR E I fe se ho kq sl ct M e0 r c P T par lst wt num) (F' : FP E I b w one two piece kinds sl' ct' M') (W : WA b w what ct') (L : LBy E piece sl' M' be)
    (hn : n < 110) (hq : q < ct') (hj : j < c) (C : Cor E ho piece sl sl' M M' q (P j)) (epo : po n = nI q) (ju0 : j = 0 → ju n = nI 100) (ju1 : 1 ≤ j → ∃ t k, Tp piece sl' q t ∧ Mt E M' M t (T j) ∧ (t = b + 2 * k ∨ t = b + 2 * k + 1) ∧ k + 1 < ct' ∧ ju n = nI k) (hg : (go n).toInt = gl)
    (h1 : ∀ i m, 1 ≤ m → m < c → par m = j → gl < (lst m : Int) → (∀ m', 1 ≤ m' → m' < c → par m' = j → gl < (lst m' : Int) → lst m ≤ lst m') → Tp piece sl' q i → b ≤ i → Mt E M' M i (ptb 100 (T m)) → be i = nI (lst m) → post (nI i))
    (h0' : (∀ m, 1 ≤ m → m < c → par m = j → ¬ gl < (lst m : Int)) → post (-1)) : wp_Model_nextOf (nI sl') what piece po ju be go (nI n) post := by
  obtain ⟨F, h0, l0, hr, rc, O, h4, h5, h6⟩ := id R
  obtain ⟨o1, o2, o3, o4, o5, o6⟩ := id O
  have c98 := F.ct98
  have c98' := F'.ct98
  have l294 := F'.sl294
  have ln' := F'.len
  have b100 := F'.b100
  have pj := (o1 j hj).1
  -- which items may be next
  have ma : ∀ i, Tp piece sl' q i → ((¬ (0 : Int32) ≤ what i ∧ ¬ what i = (-1) - ju n ∧ ¬ be i ≤ go n) ↔ ∃ m, 1 ≤ m ∧ m < c ∧ par m = j ∧ gl < (lst m : Int) ∧ b ≤ i ∧ Mt E M' M i (ptb 100 (T m))) := fun i ti => by
    have li := F'.lv ti (by omega)
    have wn : b ≤ i → ∃ k, k + 1 < ct' ∧ what i = (-1) - nI k ∧ (i = b + 2 * k ∨ i = b + 2 * k + 1) := fun hb => by
      have i1 := ti.1
      have p := W.2 ((i - b) / 2) (by omega)
      have cs : i = b + 2 * ((i - b) / 2) ∨ i = b + 2 * ((i - b) / 2) + 1 := by omega
      refine ⟨(i - b) / 2, by omega, ?_, cs⟩
      rcases cs with e | e
      · rw [← e] at p; exact p.1
      · rw [← e] at p; exact p.2
    constructor
    · rintro ⟨k1, k2, k3⟩
      have hb : b ≤ i := Classical.byContradiction fun z => k1 (by
        obtain ⟨e1, e2⟩ := W.1 i (by omega)
        rw [e1, L0, zI_le (by omega) (by omega)]; omega)
      obtain ⟨s, ts, ms⟩ := cor_slot g h2 F F' pj hq C ti
      have s100 := (mt_edge F F' li (F.lv ts (by omega)) ms).2 hb
      have nm : ¬ M s e0 := fun m => by
        by_cases z : j = 0
        · rw [z, o3.2] at ts
          exact LR.up0 F h0 hr rc s100 ts m
        · obtain ⟨a1, a2, a3, -⟩ := o4 j (by omega) hj
          have e := F.uni (by omega) ts a2 h0 m a3
          obtain ⟨t, k, tt, mt, tk, kc, ek⟩ := ju1 (by omega)
          have : i = t := mt_uni' g h2 F' li (F'.lv tt (by omega)) ms (e ▸ mt)
          rw [ek] at k2
          rw [this] at k2
          rcases tk with tk | tk
          · exact k2 (by rw [tk]; exact (W.2 k kc).1)
          · exact k2 (by rw [tk]; exact (W.2 k kc).2)
      obtain ⟨m, m1, m2, m3, m4⟩ := o5 j s hj s100 ts nm
      have es : ptb 100 (T m) = s := by rw [m3]; exact (ptb_inv s100).2.1
      have mt : Mt E M' M i (ptb 100 (T m)) := es ▸ ms
      obtain ⟨bl, ll⟩ := be_lst R F' L m1 m2 li mt
      refine ⟨m, m1, m2, m4, ?_, hb, mt⟩
      rw [bl, Int32.le_iff_toInt_le, hg, zI_toInt (by omega)] at k3
      omega
    · rintro ⟨m, m1, m2, m3, m4, hb, mt⟩
      obtain ⟨k, kc, ek, ik⟩ := wn hb
      obtain ⟨bl, ll⟩ := be_lst R F' L m1 m2 li mt
      refine ⟨by rw [ek]; exact ng_lt (by omega), fun e => ?_, ?_⟩
      · rw [ek] at e
        by_cases z : j = 0
        · rw [ju0 z, ng_eq (by omega) (by omega)] at e
          omega
        · obtain ⟨t, k', tt, mt', tk, kc', ek'⟩ := ju1 (by omega)
          rw [ek', ng_eq (by omega) (by omega)] at e
          subst e
          obtain ⟨a1, a2, a3, a4, a5⟩ := o4 m m1 m2
          obtain ⟨b1, b2, b3, -⟩ := o4 j (by omega) hj
          have pm := (o1 m m2).1
          by_cases y : i = t
          · rw [m3] at a5
            obtain ⟨-, -, -, -, mc'⟩ := F.other (by omega) a2 a1
            have : ptb 100 (T m) = T j := mt_uni g h2 F (F.lv a5 (by omega)) (F.lv b2 (by omega)) mt (y ▸ mt')
            exact (mc' e0 h0).mp (by rw [this]; exact b3) a3
          · have bt : b ≤ t := by omega
            obtain ⟨q2, hq2, tq2, qn, -⟩ := F'.other (by omega) tt bt
            have : ptb b t = i := by
              unfold ptb
              rcases tk with tk | tk <;> rcases ik with ik | ik
              · omega
              · rw [if_pos (by omega)]; omega
              · rw [if_neg (by omega)]; omega
              · omega
            exact qn (Tp_uni tq2 (this ▸ ti) (by omega) (by omega))
      · rw [bl, Int32.le_iff_toInt_le, hg, zI_toInt (by omega)]
        omega
  have inn : vp_in (nI n) 110 := (in_nI (by omega)).mpr hn
  unfold wp_Model_nextOf
  refine for2b sl' (fun k nx => (nx = -1 ∧ ∀ i, i < k → Tp piece sl' q i → ¬ ∃ m, 1 ≤ m ∧ m < c ∧ par m = j ∧ gl < (lst m : Int) ∧ b ≤ i ∧ Mt E M' M i (ptb 100 (T m))) ∨ (∃ i0 m0, i0 < k ∧ nx = nI i0 ∧ Tp piece sl' q i0 ∧ 1 ≤ m0 ∧ m0 < c ∧ par m0 = j ∧ gl < (lst m0 : Int) ∧ b ≤ i0 ∧ Mt E M' M i0 (ptb 100 (T m0)) ∧ ∀ i m, i < k → Tp piece sl' q i → 1 ≤ m → m < c → par m = j → gl < (lst m : Int) → b ≤ i → Mt E M' M i (ptb 100 (T m)) → lst m0 ≤ lst m)) (by omega) 0 (-1) (by omega) (Or.inl ⟨rfl, fun i k => absurd k (by omega)⟩) (fun K k nx hk hJ next => ⟨fun z => ?_, fun z => ?_⟩)
  · rw [zI_le (by omega) (by omega)] at z
    -- every piece below shows up
    have all : ∀ m, 1 ≤ m → m < c → par m = j → ∃ i, i < k ∧ Tp piece sl' q i ∧ b ≤ i ∧ Mt E M' M i (ptb 100 (T m)) := fun m m1 mc mp => by
      obtain ⟨a1, a2, a3, a4, a5⟩ := o4 m m1 mc
      rw [mp] at a5
      obtain ⟨i, ti, mt⟩ := cor_slot' g h2 F F' pj hq C a5
      have i1 := ti.1
      refine ⟨i, by omega, ti, Classical.byContradiction fun y => ?_, mt⟩
      have := ((mt_edge F F' (F'.lv ti (by omega)) (F.lv a5 (by omega)) mt).1 (by omega)).2
      have := (ptb_inv a1).1
      omega
    rcases hJ with ⟨rfl, no⟩ | ⟨i0, m0, hi0, rfl, t0, a, d, e, f, b0, mt, mn⟩
    · refine h0' fun m m1 mc mp gm => ?_
      obtain ⟨i, hi, ti, hb, mt⟩ := all m m1 mc mp
      exact no i hi ti ⟨m, m1, mc, mp, gm, hb, mt⟩
    · obtain ⟨bl, -⟩ := be_lst R F' L a d (F'.lv t0 (by omega)) mt
      refine h1 i0 m0 a d e f (fun m' x1 x2 x3 x4 => ?_) t0 b0 mt bl
      obtain ⟨i, hi, ti, hb, mt⟩ := all m' x1 x2 x3
      exact mn i m' hi ti x1 x2 x3 x4 hb mt
  · rw [zI_le (by omega) (by omega)] at z
    have ik : vp_in (nI k) 320 := (in_nI (by omega)).mpr (by omega)
    rw [zI_succ, ix_nI (k := k) (by omega), ix_nI (k := n) (by omega), epo]
    have skip : (Tp piece sl' q k → ¬ ∃ m, 1 ≤ m ∧ m < c ∧ par m = j ∧ gl < (lst m : Int) ∧ b ≤ k ∧ Mt E M' M k (ptb 100 (T m))) → K nx (nI (k + 1)) := fun no => next (by omega) _ (by
      rcases hJ with ⟨e, no'⟩ | ⟨i0, m0, hi0, e, t0, a, d, f, f', b0, mt, mn⟩
      · refine Or.inl ⟨e, fun i hi ti => ?_⟩
        by_cases y : i = k
        · subst y; exact no ti
        · exact no' i (by omega) ti
      · refine Or.inr ⟨i0, m0, by omega, e, t0, a, d, f, f', b0, mt, fun i m hi ti x1 x2 x3 x4 x5 x6 => ?_⟩
        by_cases y : i = k
        · subst y; exact absurd ⟨m, x1, x2, x3, x4, x5, x6⟩ (no ti)
        · exact mn i m (by omega) ti x1 x2 x3 x4 x5 x6)
    have no0 : (Tp piece sl' q k → ¬ (¬ (0 : Int32) ≤ what k ∧ ¬ what k = (-1) - ju n ∧ ¬ be k ≤ go n)) → K nx (nI (k + 1)) := fun y => skip fun t m => y t ((ma k t).mpr m)
    refine ⟨ik, inn, fun y => ⟨fun _ => no0 fun t => absurd t.2 y, fun t => absurd rfl t⟩, fun y => ⟨ik, fun t => ⟨fun _ => no0 fun _ s => s.1 t, fun t => absurd rfl t⟩, fun t => ⟨ik, inn, fun t2 => ⟨fun _ => no0 fun _ s => s.2.1 t2, fun t => absurd rfl t⟩, fun t2 => ⟨ik, inn, fun t3 => ⟨fun _ => no0 fun _ s => s.2.2 t3, fun t => absurd rfl t⟩, fun t3 => ⟨fun t => absurd t (by decide), fun _ => ?_⟩⟩⟩⟩⟩
    have tk : Tp piece sl' q k := ⟨by omega, y⟩
    obtain ⟨m, m1, m2, m3, m4, m5, m6⟩ := (ma k tk).mp ⟨t, t2, t3⟩
    obtain ⟨bl, ll⟩ := be_lst R F' L m1 m2 (F'.lv tk (by omega)) m6
    have uniq : ∀ m', 1 ≤ m' → m' < c → Mt E M' M k (ptb 100 (T m')) → lst m' = lst m := fun m' x1 x2 x3 => by
      obtain ⟨bl', ll'⟩ := be_lst R F' L x1 x2 (F'.lv tk (by omega)) x3
      have := bl'.symm.trans bl
      rw [zI_eq (by omega) (by omega)] at this
      exact this
    rcases hJ with ⟨rfl, no⟩ | ⟨i0, m0, hi0, rfl, t0, a, d, f, f', b0, mt, mn⟩
    · refine ⟨fun _ => next (by omega) _ (Or.inr ⟨k, m, by omega, rfl, tk, m1, m2, m3, m4, m5, m6, fun i m' hi ti x1 x2 x3 x4 x5 x6 => ?_⟩), fun t => absurd (by decide) t⟩
      by_cases s : i = k
      · subst s; rw [uniq m' x1 x2 x6]; omega
      · exact absurd ⟨m', x1, x2, x3, x4, x5, x6⟩ (no i (by omega) ti)
    · have i01 := t0.1
      obtain ⟨bl0, ll0⟩ := be_lst R F' L a d (F'.lv t0 (by omega)) mt
      rw [ix_nI (k := i0) (by omega), bl, bl0, zI_le (by omega) (by omega)]
      refine ⟨fun t => absurd t (zI_nn (by omega)), fun _ => ⟨ik, (in_nI (by omega)).mpr (by omega), fun u => next (by omega) _ (Or.inr ⟨i0, m0, by omega, rfl, t0, a, d, f, f', b0, mt, fun i m' hi ti x1 x2 x3 x4 x5 x6 => ?_⟩), fun u => next (by omega) _ (Or.inr ⟨k, m, by omega, rfl, tk, m1, m2, m3, m4, m5, m6, fun i m' hi ti x1 x2 x3 x4 x5 x6 => ?_⟩)⟩⟩
      · by_cases s : i = k
        · subst s; rw [uniq m' x1 x2 x6]; exact u
        · exact mn i m' (by omega) ti x1 x2 x3 x4 x5 x6
      · by_cases s : i = k
        · subst s; rw [uniq m' x1 x2 x6]; omega
        · have := mn i m' (by omega) ti x1 x2 x3 x4 x5 x6
          omega
end
