/-! PURE PART XXIX: the law's cases that ask a node -/
theorem toI_inj (e : Int32) : True := trivial
theorem law_ok {o o1 : Nat → Int64} {v r : Int32} {K : Prop} (eo : o1 = vp_updL o (ix 0) v.toInt64) (e : v = r) (k : K) : ((0 : Int32) = 0 → (¬ (0 : Int32) = 0 → K) ∧ ((0 : Int32) = 0 → vp_in 0 1 ∧ ((lg_cmp (o1 (ix 0)) r.toInt64) = 0 → K) ∧ (¬ (lg_cmp (o1 (ix 0)) r.toInt64) = 0 → False))) ∧ (¬ (0 : Int32) = 0 → False) :=
  ⟨fun _ => ⟨fun _ => k, fun _ => ⟨(in_nI (k := 0) (by omega)).mpr (by omega), fun _ => k, fun n => n (by rw [cmp0, eo, updL_at, e])⟩⟩, fun n => n rfl⟩
theorem law_okb {o o1 : Nat → Int64} {v r : Int64} {K : Prop} (eo : o1 = vp_updL o (ix 0) v) (e : v = r) (k : K) : vp_in 0 1 ∧ ((lg_cmp (o1 (ix 0)) r) = 0 → K) ∧ (¬ (lg_cmp (o1 (ix 0)) r) = 0 → False) :=
  ⟨(in_nI (k := 0) (by omega)).mpr (by omega), fun _ => k, fun n => n (by rw [cmp0, eo, updL_at, e])⟩
theorem law_ex {x : Int32} (hx : x ≠ 0) {A K : Prop} (k : K) : (x = x → (¬ x = 0 → K) ∧ (x = 0 → A)) ∧ (¬ x = x → False) := ⟨fun _ => ⟨fun _ => k, fun z => absurd z hx⟩, fun z => z rfl⟩
theorem ref_00 {th : Int32} {post : Int32 → Int32 → Prop} (h : post 0 0) : wp_Model_refused th 0 0 post := ⟨fun _ => ⟨fun _ => ⟨fun _ => h, fun z => absurd (by decide) z⟩, fun z => absurd rfl z⟩, fun z => absurd rfl z⟩
theorem ref_10 {th z : Int32} {post : Int32 → Int32 → Prop} (h : post 1 1) : wp_Model_refused th 1 z post := ⟨fun z => absurd z (by decide), fun _ => ⟨fun z => absurd z (by decide), fun _ => h⟩⟩
theorem ref_01 {th : Int32} {post : Int32 → Int32 → Prop} (h : post 1 2) : wp_Model_refused th 0 1 post := ⟨fun _ => ⟨fun z => absurd z (by decide), fun _ => ⟨fun z => absurd z (by decide), fun _ => h⟩⟩, fun z => absurd rfl z⟩
theorem none_no {th nodes x : Int32} {post : Int32 → Int32 → Prop} (h : post 1 1) : wp_Model_none th 0 nodes x post := ⟨fun z => absurd rfl z, fun _ => ⟨fun _ => ref_10 ⟨Or.inr rfl, h⟩, fun z => absurd rfl z⟩⟩
theorem none_bad {th nodes x : Int32} {post : Int32 → Int32 → Prop} (b : x < 0 ∨ ¬ x < nodes) (h : post 1 2) : wp_Model_none th 1 nodes x post := ⟨fun _ => ⟨fun z => absurd z (by decide), fun _ => ⟨fun _ => ref_01 ⟨Or.inr rfl, h⟩, fun z => ⟨fun y => absurd (b.resolve_left z) (fun n => n y), fun _ => ref_01 ⟨Or.inr rfl, h⟩⟩⟩⟩, fun z => absurd z (by decide)⟩
theorem none_ok {th : Int32} {n c : Nat} {post : Int32 → Int32 → Prop} (hn : n < c) (hc : c ≤ 98) (h : post 0 0) : wp_Model_none th 1 (nI c) (nI n) post := ⟨fun _ => ⟨fun z => absurd z (by decide), fun _ => ⟨fun z => absurd z (zI_nn (by omega)), fun _ => ⟨fun _ => ref_00 ⟨Or.inl rfl, h⟩, fun z => absurd ((zI_lt (by omega) (by omega)).mpr hn) z⟩⟩⟩, fun z => absurd z (by decide)⟩
theorem chk_bad {x nc : Int32} (b : x < 0 ∨ ¬ x < nc) {P Q : Prop} (q : Q) : (x < 0 → Q) ∧ (¬ x < 0 → (x < nc → P) ∧ (¬ x < nc → Q)) := ⟨fun _ => q, fun z => ⟨fun y => absurd y (b.resolve_left z), fun _ => q⟩⟩
theorem chk_ok {n c : Nat} (hn : n < c) (hc : c ≤ 98) {P Q : Prop} (p : P) : (nI n < 0 → Q) ∧ (¬ nI n < 0 → (nI n < nI c → P) ∧ (¬ nI n < nI c → Q)) := ⟨fun z => absurd z (zI_nn (by omega)), fun _ => ⟨fun _ => p, fun z => absurd ((zI_lt (by omega) (by omega)).mpr hn) z⟩⟩
/-- no tree, or both trees of one graph -/
def ST (E : Nat → Prop) (I : Nat → Nat → Prop) (kn sn an ln gn : Nat → Int32) (iN : Nat → Int64) (oe : Nat → Int32) (nc built tree items : Int32) (one two what piece kinds : Nat → Int32) (nodes : Int32) (po nu up ju pa : Nat → Int32) : Prop :=
  (built = 0 ∧ tree = 0) ∨ (built = 1 ∧ tree = 1 ∧ ∃ c sl' ct', nc = nI c ∧ nodes = nI c ∧ items = nI sl' ∧ Gr E I ∧ Two E I ∧ TR E I kn sn an ln gn iN oe one two what piece kinds po nu up ju pa c sl' ct')
section
variable {E : Nat → Prop} {I : Nat → Nat → Prop} {kn sn an ln gn : Nat → Int32} {iN : Nat → Int64} {oe : Nat → Int32} {nc built tree items : Int32} {one two what piece kinds : Nat → Int32} {nodes : Int32} {po nu up ju pa : Nat → Int32} {L : Nat} {xs : Nat → Int32} {i th : Int32} {o : Nat → Int64} {K : Int32 → (Nat → Int64) → Prop}
theorem ST.cases (S : ST E I kn sn an ln gn iN oe nc built tree items one two what piece kinds nodes po nu up ju pa) (x : Int32) : (built = 0 ∧ tree = 0) ∨ (built = 1 ∧ tree = 1 ∧ nodes = nc ∧ (x < 0 ∨ ¬ x < nc)) ∨ (built = 1 ∧ tree = 1 ∧ ∃ n c sl' ct', n < c ∧ x = nI n ∧ nc = nI c ∧ nodes = nI c ∧ items = nI sl' ∧ Gr E I ∧ Two E I ∧ TR E I kn sn an ln gn iN oe one two what piece kinds po nu up ju pa c sl' ct') := by
  rcases S with S | ⟨b, t, c, sl', ct', e1, e2, e3, g, h2, T⟩
  · exact Or.inl S
  · have cc := T.c98
    by_cases z : x < 0 ∨ ¬ x < nc
    · exact Or.inr (Or.inl ⟨b, t, e2.trans e1.symm, z⟩)
    · have z1 : ¬ x < 0 := fun k => z (Or.inl k)
      have z2 : x < nc := Classical.byContradiction fun k => z (Or.inr k)
      obtain ⟨a, d⟩ := zI_of z1
      rw [a, e1, zI_lt d (by omega)] at z2
      exact Or.inr (Or.inr ⟨b, t, ix x, c, sl', ct', z2, a, e1, e2, e3, g, h2, T⟩)
theorem law4 (S : ST E I kn sn an ln gn iN oe nc built tree items one two what piece kinds nodes po nu up ju pa) (hi : vp_in (i + 1) L) (hK : ∀ t o, K t o) : wp_Law_c4 L xs i kn nc built th tree kinds nodes po o K := by
  refine ⟨hi, ?_⟩
  rcases S.cases (xs (ix (i + 1))) with ⟨rfl, rfl⟩ | ⟨rfl, rfl, rfl, bad⟩ | ⟨rfl, rfl, n, c, sl', ct', hn, ex, rfl, rfl, rfl, g, h2, T⟩
  · exact ⟨fun z => absurd rfl z, fun _ => Or.inl ⟨rfl, hi, none_no ⟨fun z => absurd z (by decide), fun _ => law_ex (by decide) (hK _ _)⟩⟩⟩
  · exact ⟨fun _ => chk_bad bad (Or.inr ⟨rfl, hi, none_bad bad ⟨fun z => absurd z (by decide), fun _ => law_ex (by decide) (hK _ _)⟩⟩), fun z => absurd z (by decide)⟩
  · obtain ⟨c98, -, ct98, l294⟩ := T.c98
    obtain ⟨q, hq, e1, e2, -⟩ := T.ans g h2 hn
    rw [ex]
    refine ⟨fun _ => chk_ok hn c98 ⟨(in_nI (by omega)).mpr (by omega), (in_nI (k := 0) (by omega)).mpr (by omega), fun o1 eo => ⟨hi, none_ok hn c98 ⟨fun _ => ⟨(in_nI (by omega)).mpr (by omega), ?_, law_ok eo ?_ (hK _ _)⟩, fun z => absurd rfl z⟩⟩⟩, fun z => absurd z (by decide)⟩
    · rw [ix_nI (by omega), e1]; exact (in_nI (by omega)).mpr (by omega)
    · rw [ix_nI (by omega), e1, ix_nI (by omega), e2]
theorem law5 (S : ST E I kn sn an ln gn iN oe nc built tree items one two what piece kinds nodes po nu up ju pa) (hi : vp_in (i + 1) L) (hK : ∀ t o, K t o) : wp_Law_c5 L xs i sn nc built th tree items piece nodes po o K := by
  refine ⟨hi, ?_⟩
  rcases S.cases (xs (ix (i + 1))) with ⟨rfl, rfl⟩ | ⟨rfl, rfl, rfl, bad⟩ | ⟨rfl, rfl, n, c, sl', ct', hn, ex, rfl, rfl, rfl, g, h2, T⟩
  · exact ⟨fun z => absurd rfl z, fun _ => Or.inl ⟨rfl, hi, none_no ⟨fun z => absurd z (by decide), fun _ => law_ex (by decide) (hK _ _)⟩⟩⟩
  · exact ⟨fun _ => chk_bad bad (Or.inr ⟨rfl, hi, none_bad bad ⟨fun z => absurd z (by decide), fun _ => law_ex (by decide) (hK _ _)⟩⟩), fun z => absurd z (by decide)⟩
  · obtain ⟨c98, -, ct98, l294⟩ := T.c98
    obtain ⟨q, hq, e1, -, e2, -⟩ := T.ans g h2 hn
    rw [ex]
    refine ⟨fun _ => chk_ok hn c98 ⟨(in_nI (by omega)).mpr (by omega), (in_nI (k := 0) (by omega)).mpr (by omega), fun o1 eo => ⟨hi, none_ok hn c98 ⟨fun _ => ⟨(in_nI (by omega)).mpr (by omega), ?_⟩, fun z => absurd rfl z⟩⟩⟩, fun z => absurd z (by decide)⟩
    rw [ix_nI (by omega)] at eo ⊢
    rw [e1]
    exact sp_sizeOf (by omega) (law_ok eo e2.symm (hK _ _))
theorem law6 (S : ST E I kn sn an ln gn iN oe nc built tree items one two what piece kinds nodes po nu up ju pa) (hi : vp_in (i + 1) L) (hK : ∀ t o, K t o) : wp_Law_c6 L xs i iN nc built th tree items one two piece nodes po o K := by
  refine ⟨hi, ?_⟩
  rcases S.cases (xs (ix (i + 1))) with ⟨rfl, rfl⟩ | ⟨rfl, rfl, rfl, bad⟩ | ⟨rfl, rfl, n, c, sl', ct', hn, ex, rfl, rfl, rfl, g, h2, T⟩
  · exact ⟨fun z => absurd rfl z, fun _ => Or.inl ⟨rfl, hi, none_no ⟨fun z => absurd z (by decide), fun _ => law_ex (by decide) (hK _ _)⟩⟩⟩
  · exact ⟨fun _ => chk_bad bad (Or.inr ⟨rfl, hi, none_bad bad ⟨fun z => absurd z (by decide), fun _ => law_ex (by decide) (hK _ _)⟩⟩), fun z => absurd z (by decide)⟩
  · obtain ⟨c98, -, ct98, l294⟩ := T.c98
    obtain ⟨q, hq, e1, -, -, e2, -⟩ := T.ans g h2 hn
    obtain ⟨-, -, -, -, -, -, -, -, -, -, -, -, -, -, -, b, w, M', -, -, F', -⟩ := id T
    rw [ex]
    refine ⟨fun _ => chk_ok hn c98 ⟨(in_nI (by omega)).mpr (by omega), ?_⟩, fun z => absurd z (by decide)⟩
    rw [ix_nI (by omega)]
    have p40 : ∀ y, bt (iN n) y → y < 40 := fun y k => by
      obtain ⟨s, ts, k'⟩ := (e2 y).mp k
      obtain ⟨-, -, -, i4, i5, -⟩ := F'.itm (by omega) ts.1 ts.2
      omega
    refine bcn_wp ⟨(in_nI (k := 0) (by omega)).mpr (by omega), fun o1 eo => ⟨hi, none_ok hn c98 ⟨fun _ => ⟨(in_nI (by omega)).mpr (by omega), ?_⟩, fun z => absurd rfl z⟩⟩⟩
    rw [ix_nI (k := n) (by omega), e1]
    refine sp_pointsOfF F' (by omega) (law_ok eo ?_ (hK _ _))
    rw [bcn_cnt p40]
    congr 1
    exact cnt_congr fun y _ => e2 y
theorem law8 (S : ST E I kn sn an ln gn iN oe nc built tree items one two what piece kinds nodes po nu up ju pa) (hi : vp_in (i + 1) L) (hK : ∀ t o, K t o) : wp_Law_c8 L xs i an nc built th tree nodes up o K := by
  refine ⟨hi, ?_⟩
  rcases S.cases (xs (ix (i + 1))) with ⟨rfl, rfl⟩ | ⟨rfl, rfl, rfl, bad⟩ | ⟨rfl, rfl, n, c, sl', ct', hn, ex, rfl, rfl, rfl, g, h2, T⟩
  · exact ⟨fun z => absurd rfl z, fun _ => Or.inl ⟨rfl, hi, none_no ⟨fun z => absurd z (by decide), fun _ => law_ex (by decide) (hK _ _)⟩⟩⟩
  · exact ⟨fun _ => chk_bad bad (Or.inr ⟨rfl, hi, none_bad bad ⟨fun z => absurd z (by decide), fun _ => law_ex (by decide) (hK _ _)⟩⟩), fun z => absurd z (by decide)⟩
  · obtain ⟨c98, -, ct98, l294⟩ := T.c98
    obtain ⟨q, hq, -, -, -, -, e2, -⟩ := T.ans g h2 hn
    rw [ex]
    refine ⟨fun _ => chk_ok hn c98 ⟨(in_nI (by omega)).mpr (by omega), (in_nI (k := 0) (by omega)).mpr (by omega), fun o1 eo => ⟨hi, none_ok hn c98 ⟨fun _ => ⟨(in_nI (by omega)).mpr (by omega), law_ok eo ?_ (hK _ _)⟩, fun z => absurd rfl z⟩⟩⟩, fun z => absurd z (by decide)⟩
    rw [ix_nI (by omega), e2]
theorem law9 (S : ST E I kn sn an ln gn iN oe nc built tree items one two what piece kinds nodes po nu up ju pa) (hi : vp_in (i + 1) L) (hi2 : vp_in (i + 2) L) (hK : ∀ t o, K t o) : wp_Law_c9 L xs i ln gn nc built th tree one two what nodes ju o K := by
  refine ⟨hi, hi2, ?_⟩
  -- the flag
  have main : ∀ z : Int32, (z = 0 ∨ z = 1) → wp_Law_joint 1 ln gn nc built o (xs (ix (i + 1))) z (fun r_5 o_4 => vp_in (i + 1) L ∧ vp_in (i + 2) L ∧ wp_Model_joint th tree one two what nodes ju (xs (ix (i + 1))) z (fun r_10 m_thrown_9 => wp_Model_thrown m_thrown_9 (fun r_11 => (r_11 = r_5 → (¬ r_5 = 0 → K m_thrown_9 o_4) ∧ (r_5 = 0 → vp_in 0 1 ∧ ((lg_cmp (o_4 (ix 0)) r_10.toInt64) = 0 → K m_thrown_9 o_4) ∧ (¬ (lg_cmp (o_4 (ix 0)) r_10.toInt64) = 0 → False))) ∧ (¬ r_11 = r_5 → False)))) := by
    intro z hz
    rcases S.cases (xs (ix (i + 1))) with ⟨rfl, rfl⟩ | ⟨rfl, rfl, rfl, bad⟩ | ⟨rfl, rfl, n, c, sl', ct', hn, ex, rfl, rfl, rfl, g, h2, T⟩
    · exact ⟨fun z => absurd rfl z, fun _ => Or.inl ⟨rfl, hi, hi2, none_no ⟨fun z => absurd z (by decide), fun _ => law_ex (by decide) (hK _ _)⟩⟩⟩
    · exact ⟨fun _ => chk_bad bad (Or.inr ⟨rfl, hi, hi2, none_bad bad ⟨fun z => absurd z (by decide), fun _ => law_ex (by decide) (hK _ _)⟩⟩), fun z => absurd z (by decide)⟩
    · obtain ⟨c98, -, ct98, l294⟩ := T.c98
      obtain ⟨q, hq, -, -, -, -, -, e0, e1⟩ := T.ans g h2 hn
      rw [ex]
      have i98 : vp_in (nI n) 98 := (in_nI (by omega)).mpr (by omega)
      have x0 : vp_in 0 1 := (in_nI (k := 0) (by omega)).mpr (by omega)
      have xn : ix (nI n) = n := ix_nI (by omega)
      -- what the reference answers
      have ref : ∀ (v : Int32) (o1 : Nat → Int64), o1 = vp_updL o (ix 0) v.toInt64 → ((z = 0 ∧ v = ln n) ∨ (z = 1 ∧ v = gn n)) → wp_Model_joint th 1 one two what (nI c) ju (nI n) z (fun r_10 m_thrown_9 => wp_Model_thrown m_thrown_9 (fun r_11 => (r_11 = 0 → (¬ (0 : Int32) = 0 → K m_thrown_9 o1) ∧ ((0 : Int32) = 0 → vp_in 0 1 ∧ ((lg_cmp (o1 (ix 0)) r_10.toInt64) = 0 → K m_thrown_9 o1) ∧ (¬ (lg_cmp (o1 (ix 0)) r_10.toInt64) = 0 → False))) ∧ (¬ r_11 = 0 → False))) := fun v o1 eo hv => by
        refine none_ok hn c98 ⟨fun _ => ⟨fun nz => ⟨(in_nI (by omega)).mpr (by omega), ?_⟩, fun nz => law_ok eo ?_ (hK _ _)⟩, fun z => absurd rfl z⟩
        · rw [L0, zI_eq (by omega) (by omega)] at nz
          obtain ⟨b, w, k, a, d, W, b100, kc, ek, f1, f2, d1, d2, d3, l1, g1⟩ := e1 nz
          rw [xn, ek]
          refine sp_itemOf W b100 ct98 kc ?_
          have ib : vp_in (nI (b + 2 * k)) 320 := (in_nI (by omega)).mpr (by omega)
          rw [ix_nI (k := b + 2 * k) (by omega), f1, f2]
          refine ⟨ib, ib, ?_⟩
          have le : nI d ≤ nI a ↔ d ≤ a := zI_le (by omega) (by omega)
          refine ⟨fun y => ⟨fun y2 => ⟨ib, ?_⟩, fun y2 => ⟨ib, ?_⟩⟩, fun y => ⟨fun y2 => ⟨ib, ?_⟩, fun y2 => ⟨ib, ?_⟩⟩⟩
          · rw [le] at y
            refine law_ok eo ?_ (hK _ _)
            rcases hv with ⟨rfl, -⟩ | ⟨-, rfl⟩
            · exact absurd rfl y2
            · rw [g1]; congr 1; omega
          · rw [le] at y
            refine law_ok eo ?_ (hK _ _)
            rcases hv with ⟨-, rfl⟩ | ⟨rfl, -⟩
            · rw [l1]; congr 1; omega
            · exact absurd y2 (by decide)
          · rw [le] at y
            refine law_ok eo ?_ (hK _ _)
            rcases hv with ⟨-, rfl⟩ | ⟨rfl, -⟩
            · rw [l1]; congr 1; omega
            · exact absurd rfl y2
          · rw [le] at y
            refine law_ok eo ?_ (hK _ _)
            rcases hv with ⟨rfl, -⟩ | ⟨-, rfl⟩
            · exact absurd y2 (by decide)
            · rw [g1]; congr 1; omega
        · rw [L0, zI_eq (by omega) (by omega)] at nz
          obtain ⟨y1, y2⟩ := e0 nz
          rcases hv with ⟨-, e⟩ | ⟨-, e⟩
          · rw [e, y1]
          · rw [e, y2]
      refine ⟨fun _ => chk_ok hn c98 ⟨fun y => ⟨i98, x0, fun o1 eo => ⟨hi, hi2, ?_⟩⟩, fun y => ⟨i98, x0, fun o1 eo => ⟨hi, hi2, ?_⟩⟩⟩, fun z => absurd z (by decide)⟩
      · rw [xn] at eo
        exact ref _ o1 eo (Or.inl ⟨y, rfl⟩)
      · rw [xn] at eo
        exact ref _ o1 eo (Or.inr ⟨hz.resolve_left y, rfl⟩)
  by_cases z : xs (ix (i + 2)) = 0
  · refine ⟨fun _ => ?_, fun y => absurd z y⟩
    have m := main 0 (Or.inl rfl)
    have e : (fun (r_5 : Int32) (o_4 : Nat → Int64) => vp_in (i + 1) L ∧ vp_in (i + 2) L ∧ jn1 (fun (z_6 : Int32) => wp_Model_joint th tree one two what nodes ju (xs (ix (i + 1))) z_6 (fun r_10 m_thrown_9 => wp_Model_thrown m_thrown_9 (fun r_11 => (r_11 = r_5 → (¬ r_5 = 0 → K m_thrown_9 o_4) ∧ (r_5 = 0 → vp_in 0 1 ∧ ((lg_cmp (o_4 (ix 0)) r_10.toInt64) = 0 → K m_thrown_9 o_4) ∧ (¬ (lg_cmp (o_4 (ix 0)) r_10.toInt64) = 0 → False))) ∧ (¬ r_11 = r_5 → False)))) (fun (J_7 : Int32 → Prop) => ((xs (ix (i + 2))) = 0 → J_7 0) ∧ (¬ (xs (ix (i + 2))) = 0 → J_7 1))) = (fun r_5 o_4 => vp_in (i + 1) L ∧ vp_in (i + 2) L ∧ wp_Model_joint th tree one two what nodes ju (xs (ix (i + 1))) 0 (fun r_10 m_thrown_9 => wp_Model_thrown m_thrown_9 (fun r_11 => (r_11 = r_5 → (¬ r_5 = 0 → K m_thrown_9 o_4) ∧ (r_5 = 0 → vp_in 0 1 ∧ ((lg_cmp (o_4 (ix 0)) r_10.toInt64) = 0 → K m_thrown_9 o_4) ∧ (¬ (lg_cmp (o_4 (ix 0)) r_10.toInt64) = 0 → False))) ∧ (¬ r_11 = r_5 → False)))) := by
      funext r o
      exact propext ⟨fun ⟨a, b, c⟩ => ⟨a, b, c.1 z⟩, fun ⟨a, b, c⟩ => ⟨a, b, fun _ => c, fun y => absurd z y⟩⟩
    show wp_Law_joint 1 ln gn nc built o (xs (ix (i + 1))) 0 _
    rw [e]
    exact m
  · refine ⟨fun y => absurd y z, fun _ => ?_⟩
    have m := main 1 (Or.inr rfl)
    have e : (fun (r_5 : Int32) (o_4 : Nat → Int64) => vp_in (i + 1) L ∧ vp_in (i + 2) L ∧ jn1 (fun (z_6 : Int32) => wp_Model_joint th tree one two what nodes ju (xs (ix (i + 1))) z_6 (fun r_10 m_thrown_9 => wp_Model_thrown m_thrown_9 (fun r_11 => (r_11 = r_5 → (¬ r_5 = 0 → K m_thrown_9 o_4) ∧ (r_5 = 0 → vp_in 0 1 ∧ ((lg_cmp (o_4 (ix 0)) r_10.toInt64) = 0 → K m_thrown_9 o_4) ∧ (¬ (lg_cmp (o_4 (ix 0)) r_10.toInt64) = 0 → False))) ∧ (¬ r_11 = r_5 → False)))) (fun (J_7 : Int32 → Prop) => ((xs (ix (i + 2))) = 0 → J_7 0) ∧ (¬ (xs (ix (i + 2))) = 0 → J_7 1))) = (fun r_5 o_4 => vp_in (i + 1) L ∧ vp_in (i + 2) L ∧ wp_Model_joint th tree one two what nodes ju (xs (ix (i + 1))) 1 (fun r_10 m_thrown_9 => wp_Model_thrown m_thrown_9 (fun r_11 => (r_11 = r_5 → (¬ r_5 = 0 → K m_thrown_9 o_4) ∧ (r_5 = 0 → vp_in 0 1 ∧ ((lg_cmp (o_4 (ix 0)) r_10.toInt64) = 0 → K m_thrown_9 o_4) ∧ (¬ (lg_cmp (o_4 (ix 0)) r_10.toInt64) = 0 → False))) ∧ (¬ r_11 = r_5 → False)))) := by
      funext r o
      exact propext ⟨fun ⟨a, b, c⟩ => ⟨a, b, c.2 z⟩, fun ⟨a, b, c⟩ => ⟨a, b, fun y => absurd y z, fun _ => c⟩⟩
    show wp_Law_joint 1 ln gn nc built o (xs (ix (i + 1))) 1 _
    rw [e]
    exact m
theorem law11 (S : ST E I kn sn an ln gn iN oe nc built tree items one two what piece kinds nodes po nu up ju pa) (hi : vp_in (i + 1) L) (hi2 : vp_in (i + 2) L) (hK : ∀ t o, K t o) : wp_Law_c11 L xs i iN nc built th tree items one two piece nodes po o K := by
  refine ⟨hi, hi2, ?_⟩
  rcases S.cases (xs (ix (i + 1))) with ⟨rfl, rfl⟩ | ⟨rfl, rfl, rfl, bad⟩ | ⟨rfl, rfl, n, c, sl', ct', hn, ex, rfl, rfl, rfl, g, h2, T⟩
  · exact ⟨fun z => absurd rfl z, fun _ => Or.inl ⟨rfl, hi, hi2, none_no ⟨fun z => absurd z (by decide), fun _ => law_ex (by decide) (hK _ _)⟩⟩⟩
  · exact ⟨fun _ => chk_bad bad (Or.inr ⟨rfl, hi, hi2, none_bad bad ⟨fun z => absurd z (by decide), fun _ => law_ex (by decide) (hK _ _)⟩⟩), fun z => absurd z (by decide)⟩
  · obtain ⟨c98, -, ct98, l294⟩ := T.c98
    obtain ⟨q, hq, e1, -, -, e2, -⟩ := T.ans g h2 hn
    obtain ⟨-, -, -, -, -, -, -, -, -, -, -, -, -, -, -, b, w, M', -, -, F', -⟩ := id T
    rw [ex]
    have x0 : vp_in 0 1 := (in_nI (k := 0) (by omega)).mpr (by omega)
    refine ⟨fun _ => chk_ok hn c98 ?_, fun z => absurd z (by decide)⟩
    unfold wp_Tree_checkPoint wp_Tree_isPoint
    have bad : (xs (ix (i + 2)) < 0 ∨ (40 : Int32) ≤ xs (ix (i + 2))) → (vp_in (i + 1) L ∧ vp_in (i + 2) L ∧ wp_Model_has th 1 (nI sl') one two piece (nI c) po (nI n) (xs (ix (i + 2))) (fun r_4 m_thrown_3 => wp_Model_thrown m_thrown_3 (fun r_5 => (r_5 = 2 → (¬ (2 : Int32) = 0 → K m_thrown_3 o) ∧ ((2 : Int32) = 0 → vp_in 0 1 ∧ jn1 (fun (z_6 : Int64) => ((lg_cmp (o (ix 0)) z_6) = 0 → K m_thrown_3 o) ∧ (¬ (lg_cmp (o (ix 0)) z_6) = 0 → False)) (fun (J_7 : Int64 → Prop) => (r_4 = 0 → J_7 0) ∧ (¬ r_4 = 0 → J_7 1)))) ∧ (¬ r_5 = 2 → False)))) := fun bd => by
      refine ⟨hi, hi2, none_ok hn c98 ⟨fun _ => ?_, fun z => absurd rfl z⟩⟩
      unfold wp_Model_isPoint
      have fin := law_ex (x := (2 : Int32)) (by decide) (A := vp_in 0 1 ∧ jn1 (fun (z_6 : Int64) => ((lg_cmp (o (ix 0)) z_6) = 0 → K 2 o) ∧ (¬ (lg_cmp (o (ix 0)) z_6) = 0 → False)) (fun (J_7 : Int64 → Prop) => ((0 : Int32) = 0 → J_7 0) ∧ (¬ (0 : Int32) = 0 → J_7 1))) (hK 2 o)
      exact ⟨fun _ => ⟨fun _ => ⟨fun _ => fin, fun z => absurd z (by decide)⟩, fun z => absurd rfl z⟩, fun z => ⟨fun _ => ⟨fun _ => ⟨fun _ => fin, fun z => absurd z (by decide)⟩, fun z => absurd rfl z⟩, fun y => absurd (bd.resolve_left z) y⟩⟩
    refine ⟨fun z => ⟨fun y => absurd rfl y, fun _ => Or.inr ⟨rfl, bad (Or.inl z)⟩⟩, fun z => ⟨fun y => ⟨fun t => absurd rfl t, fun _ => Or.inr ⟨rfl, bad (Or.inr y)⟩⟩, fun y => ⟨fun _ => ⟨(in_nI (by omega)).mpr (by omega), ?_⟩, fun t => absurd t (by decide)⟩⟩⟩
    obtain ⟨a1, a2⟩ := zI_of z
    rw [a1, L40, zI_le (by omega) a2] at y
    rw [ix_nI (k := n) (by omega)]
    have eqx := a1
    have ref : ∀ (v : Int64) (o1 : Nat → Int64), o1 = vp_updL o (ix 0) v → ((v = 0 ∧ ¬ Pts (Tp piece sl' q) (en one) (en two) (ix (xs (ix (i + 2))))) ∨ (v = 1 ∧ Pts (Tp piece sl' q) (en one) (en two) (ix (xs (ix (i + 2)))))) → wp_Model_has th 1 (nI sl') one two piece (nI c) po (nI n) (xs (ix (i + 2))) (fun r_4 m_thrown_3 => wp_Model_thrown m_thrown_3 (fun r_5 => (r_5 = 0 → (¬ (0 : Int32) = 0 → K m_thrown_3 o1) ∧ ((0 : Int32) = 0 → vp_in 0 1 ∧ jn1 (fun (z_6 : Int64) => ((lg_cmp (o1 (ix 0)) z_6) = 0 → K m_thrown_3 o1) ∧ (¬ (lg_cmp (o1 (ix 0)) z_6) = 0 → False)) (fun (J_7 : Int64 → Prop) => (r_4 = 0 → J_7 0) ∧ (¬ r_4 = 0 → J_7 1)))) ∧ (¬ r_5 = 0 → False))) := fun v o1 eo hv => by
      refine none_ok hn c98 ⟨fun _ => ?_, fun z => absurd rfl z⟩
      unfold wp_Model_isPoint
      refine ⟨fun t => absurd t z, fun _ => ⟨fun t => absurd t (by rw [a1, L40, zI_le (by omega) a2]; exact y), fun _ => ⟨fun t => absurd t (by decide), fun _ => ⟨fun t => absurd rfl t, fun _ => ⟨(in_nI (by omega)).mpr (by omega), ?_⟩⟩⟩⟩⟩
      rw [ix_nI (k := n) (by omega), e1, a1]
      refine sp_hasPointF F' (by omega) a2 (fun t => ⟨fun s => absurd s (by decide), fun _ => ⟨fun _ => ⟨fun s => absurd rfl s, fun _ => ?_⟩, fun s => absurd rfl s⟩⟩) (fun t => ⟨fun _ => ⟨fun _ => ⟨fun s => absurd rfl s, fun _ => ?_⟩, fun s => absurd rfl s⟩, fun s => absurd rfl s⟩)
      · rcases hv with ⟨-, n'⟩ | ⟨e, -⟩
        · exact absurd t n'
        · obtain ⟨b1, b2⟩ := law_okb (K := K 0 o1) eo e (hK _ _)
          exact ⟨b1, fun s => absurd s (by decide), fun _ => b2⟩
      · rcases hv with ⟨e, -⟩ | ⟨-, n'⟩
        · obtain ⟨b1, b2⟩ := law_okb (K := K 0 o1) eo e (hK _ _)
          exact ⟨b1, fun _ => b2, fun s => absurd rfl s⟩
        · exact absurd n' t
    generalize hx : ix (xs (ix (i + 2))) = m at *
    have hm : wp_Tree_holds (iN n) (nI m) (fun r_1 => sk_b r_1 ∧ (r_1 = 0 → vp_in 0 1 ∧ ∀ p3_4 : Nat → Int64, p3_4 = vp_updL o (ix 0) 0 → (vp_in (i + 1) L ∧ vp_in (i + 2) L ∧ wp_Model_has th 1 (nI sl') one two piece (nI c) po (nI n) (xs (ix (i + 2))) (fun r_4 m_thrown_3 => wp_Model_thrown m_thrown_3 (fun r_5 => (r_5 = 0 → (¬ (0 : Int32) = 0 → K m_thrown_3 p3_4) ∧ ((0 : Int32) = 0 → vp_in 0 1 ∧ jn1 (fun (z_6 : Int64) => ((lg_cmp (p3_4 (ix 0)) z_6) = 0 → K m_thrown_3 p3_4) ∧ (¬ (lg_cmp (p3_4 (ix 0)) z_6) = 0 → False)) (fun (J_7 : Int64 → Prop) => (r_4 = 0 → J_7 0) ∧ (¬ r_4 = 0 → J_7 1)))) ∧ (¬ r_5 = 0 → False))))) ∧ (¬ r_1 = 0 → vp_in 0 1 ∧ ∀ p3_6 : Nat → Int64, p3_6 = vp_updL o (ix 0) 1 → (vp_in (i + 1) L ∧ vp_in (i + 2) L ∧ wp_Model_has th 1 (nI sl') one two piece (nI c) po (nI n) (xs (ix (i + 2))) (fun r_4 m_thrown_3 => wp_Model_thrown m_thrown_3 (fun r_5 => (r_5 = 0 → (¬ (0 : Int32) = 0 → K m_thrown_3 p3_6) ∧ ((0 : Int32) = 0 → vp_in 0 1 ∧ jn1 (fun (z_6 : Int64) => ((lg_cmp (p3_6 (ix 0)) z_6) = 0 → K m_thrown_3 p3_6) ∧ (¬ (lg_cmp (p3_6 (ix 0)) z_6) = 0 → False)) (fun (J_7 : Int64 → Prop) => (r_4 = 0 → J_7 0) ∧ (¬ r_4 = 0 → J_7 1)))) ∧ (¬ r_5 = 0 → False)))))) :=
      sp_holds (by omega) (fun s => ⟨Or.inr rfl, fun y => absurd y (by decide), fun _ => ⟨x0, fun o1 eo => ⟨hi, hi2, ref 1 o1 eo (Or.inr ⟨rfl, (e2 m).mp s⟩)⟩⟩⟩) (fun s => ⟨Or.inl rfl, fun _ => ⟨x0, fun o1 eo => ⟨hi, hi2, ref 0 o1 eo (Or.inl ⟨rfl, fun y => s ((e2 m).mpr y)⟩)⟩⟩, fun y => absurd rfl y⟩)
    rw [eqx] at hm ⊢
    exact hm
end
