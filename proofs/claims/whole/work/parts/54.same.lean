/-! PURE PART XXVIII: both trees side by side: what a node answers -/
def TR (E : Nat → Prop) (I : Nat → Nat → Prop) (kn sn an ln gn : Nat → Int32) (iN : Nat → Int64) (oe one two what piece kinds po nu up ju pa : Nat → Int32) (c sl' ct' : Nat) : Prop :=
  ∃ (fe se ho kq : Nat → Int32) (sl ct : Nat) (M : Nat → Nat → Prop) (e0 r : Nat) (P T par lst wt num : Nat → Nat) (b : Nat) (w : Nat → Nat) (M' : Nat → Nat → Prop),
    CR E I fe se ho kq sl ct M e0 r c P T par lst wt num ∧ NA fe se ho kq sl c P T par num kn sn an ln gn iN oe ∧ FP E I b w one two piece kinds sl' ct' M' ∧ WA b w what ct' ∧ (∀ i, b ≤ i → i < sl' → pa i = nI (ptb b i)) ∧ (∀ x, x < c → NV E ho piece sl sl' ct' b M M' c P T par num po nu up ju x) ∧ b = cnt 100 E ∧ ∀ e, E e → w (cnt e E) = e
section
variable {E : Nat → Prop} {I : Nat → Nat → Prop} {b : Nat} {w : Nat → Nat} {one two what piece kinds : Nat → Int32} {sl ct p : Nat} {M : Nat → Nat → Prop}
theorem FP.itm (F : FP E I b w one two piece kinds sl ct M) (hp : p < 98) {i : Nat} (hi : i < sl) (e : piece i = nI p) : i < 320 ∧ one i = nI (en one i) ∧ two i = nI (en two i) ∧ en one i < 40 ∧ en two i < 40 ∧ en one i ≠ en two i := by
  have l := F.lv (p := p) ⟨hi, e⟩ hp
  have a := F.2.2.2.1 i l
  have d := F.1.2.2.2.2.1 i l
  have := F.sl294
  exact ⟨by omega, a.1, a.2, d.1, d.2.1, d.2.2.1⟩
theorem sp_hasPointF {x : Nat} {post : Int32 → Prop} (F : FP E I b w one two piece kinds sl ct M) (hp : p < 98) (hx : x < 2147483648) (h1 : Pts (Tp piece sl p) (en one) (en two) x → post 1) (h0 : ¬ Pts (Tp piece sl p) (en one) (en two) x → post 0) : wp_Model_hasPoint (nI sl) one two piece (nI p) (nI x) post := by
  have l := F.sl294
  unfold wp_Model_hasPoint
  refine for1 sl (fun k => ∀ s, s < k → piece s = nI p → ¬ (x = en one s ∨ x = en two s)) (by omega) 0 (by omega) (fun s k => absurd k (by omega)) (fun K k hk hJ nx => ⟨fun q => ?_, fun q => ?_⟩)
  · rw [zI_le (by omega) (by omega)] at q
    exact h0 fun ⟨s, hs, k⟩ => hJ s (by have := hs.1; omega) hs.2 k
  · rw [zI_le (by omega) (by omega)] at q
    rw [ix_nI (by omega), zI_succ]
    refine ⟨(in_nI (by omega)).mpr (by omega), fun z => nx (by omega) () fun s hs e => ?_, fun z => ?_⟩
    · have : s ≠ k := fun y => z (y ▸ e)
      exact hJ s (by omega) e
    · obtain ⟨i1, i2, i3, i4, i5, i6⟩ := F.itm hp (by omega) z
      refine sp_touches i1 i2 i3 i4 i5 hx (fun y => ⟨fun y => absurd y (by decide), fun _ => h1 ⟨k, ⟨by omega, z⟩, by omega⟩⟩) (fun y => ⟨fun _ => nx (by omega) () fun s hs e => ?_, fun y => absurd rfl y⟩)
      by_cases t : s = k
      · subst t; omega
      · exact hJ s (by omega) e
theorem sp_pointsOfF {post : Int32 → Prop} (F : FP E I b w one two piece kinds sl ct M) (hp : p < 98) (h : post (nI (cnt 40 (Pts (Tp piece sl p) (en one) (en two))))) : wp_Model_pointsOf (nI sl) one two piece (nI p) post := by
  unfold wp_Model_pointsOf
  refine for2b 40 (fun k a => a = nI (cnt k (Pts (Tp piece sl p) (en one) (en two)))) (by omega) 0 0 (by omega) rfl (fun K k a hk hJ nx => ⟨fun q => ?_, fun q => ?_⟩)
  · rw [L40, zI_le (by omega) (by omega)] at q
    have : k = 40 := by omega
    subst this
    rw [hJ]; exact h
  · rw [L40, zI_le (by omega) (by omega)] at q
    rw [zI_succ]
    refine sp_hasPointF F hp (by omega) (fun z => ⟨fun y => absurd y (by decide), fun _ => nx (by omega) _ ?_⟩) (fun z => ⟨fun _ => nx (by omega) _ ?_, fun y => absurd rfl y⟩)
    · rw [cnt_succ, pr_t z, hJ, zI_succ]
    · rw [cnt_succ, pr_f z, hJ]; rfl
end
section
variable {E : Nat → Prop} {I : Nat → Nat → Prop} {kn sn an ln gn : Nat → Int32} {iN : Nat → Int64} {oe one two what piece kinds po nu up ju pa : Nat → Int32} {c sl' ct' : Nat}
theorem TR.c98 (t : TR E I kn sn an ln gn iN oe one two what piece kinds po nu up ju pa c sl' ct') : c ≤ 98 ∧ 1 ≤ c ∧ ct' ≤ 98 ∧ sl' ≤ 294 := by
  obtain ⟨fe, se, ho, kq, sl, ct, M, e0, r, P, T, par, lst, wt, num, b, w, M', R, N, F', W, -⟩ := t
  have := R.cc
  have := R.1.ct98
  exact ⟨by omega, R.2.2.2.2.2.1.2.2.1.1, F'.ct98, F'.sl294⟩
/-- what both say of node x -/
theorem TR.ans (g : Gr E I) (h2 : Two E I) (t : TR E I kn sn an ln gn iN oe one two what piece kinds po nu up ju pa c sl' ct') {x : Nat} (hx : x < c) :
    ∃ q, q < ct' ∧ po x = nI q ∧ kinds q = kn x ∧ nI (cnt sl' (Tp piece sl' q)) = sn x ∧ (∀ y, bt (iN x) y ↔ Pts (Tp piece sl' q) (en one) (en two) y) ∧ up x = an x ∧ (x = 0 → ln x = -1 ∧ gn x = -1) ∧
      (x ≠ 0 → ∃ b w k a d, WA b w what ct' ∧ b ≤ 100 ∧ k + 1 < ct' ∧ ju x = nI k ∧ one (b + 2 * k) = nI a ∧ two (b + 2 * k) = nI d ∧ a < 40 ∧ d < 40 ∧ a ≠ d ∧ ln x = nI (min a d) ∧ gn x = nI (max a d)) := by
  obtain ⟨fe, se, ho, kq, sl, ct, M, e0, r, P, T, par, lst, wt, num, b, w, M', R, N, F', W, hpa, V, -⟩ := t
  obtain ⟨F, h0, l0, hr, rc, O, h4, h5, h6⟩ := id R
  obtain ⟨o1, o2, o3, o4, o5, o6⟩ := id O
  obtain ⟨n1, n2, n3, n4, n5⟩ := N
  have c98 := F.ct98
  have c98' := F'.ct98
  obtain ⟨q, j, hq, hj, C, ej, epo, enu, u0, u1⟩ := V x hx
  subst ej
  have pj := (o1 j hj).1
  obtain ⟨k1, k2, k3⟩ := n1 j hj
  have j0 : num j = 0 ↔ j = 0 := ⟨fun z => R.inj hj (by omega) (z.trans h6.1.symm), fun z => by rw [z]; exact h6.1⟩
  refine ⟨q, hq, epo, ?_, ?_, fun y => ?_, ?_, fun z => ?_, fun z => ?_⟩
  · rw [k1]; exact cor_kind g h2 F F' pj hq C
  · rw [k2, cor_size g h2 F F' pj hq C]
  · rw [k3, cor_pts g h2 F F' pj hq C]
  · by_cases z : j = 0
    · rw [(u0 z).1, z, h6.1, n2.1]
    · rw [(u1 (by omega)).1, (n3 j (by omega) hj).1]
  · rw [z]; exact n2.2
  · have jn : j ≠ 0 := fun y => z (j0.mpr y)
    obtain ⟨-, s, k, ts, mt, sk, kc, ek⟩ := u1 (by omega)
    obtain ⟨a1, a2, -⟩ := o4 j (by omega) hj
    have b100 := F'.b100
    have sb : b ≤ s := by omega
    have ls := F'.lv ts (by omega)
    -- both sides of the joint have the same ends
    have it : livS piece sl' (b + 2 * k) ∧ ∀ y, (y = en one (b + 2 * k) ∨ y = en two (b + 2 * k)) ↔ (y = en one s ∨ y = en two s) := by
      rcases sk with sk | sk
      · rw [← sk]; exact ⟨ls, fun y => Iff.rfl⟩
      · obtain ⟨c1, -, c3⟩ := F'.1.2.2.2.2.2.2.1 s ls sb
        have e : ptb b s = b + 2 * k := by unfold ptb; rw [if_neg (by omega)]; omega
        rw [e] at c1 c3
        refine ⟨c1, fun y => ?_⟩
        rw [← bas_end F'.1 c1, ← bas_end F'.1 ls]
        exact (bdy_congr c3 y).trans (bdy_not y)
    obtain ⟨f1, f2⟩ := F'.2.2.2.1 _ it.1
    obtain ⟨d1, d2, d3, -⟩ := F'.1.2.2.2.2.1 _ it.1
    obtain ⟨e1, e2, e3, -⟩ := F.1.2.2.2.2.1 _ (F.lv a2 (by omega))
    have me := mt_ends F F' ls (F.lv a2 (by omega)) mt
    have p1 := (me (en one (b + 2 * k))).mp ((it.2 _).mp (Or.inl rfl))
    have p2 := (me (en two (b + 2 * k))).mp ((it.2 _).mp (Or.inr rfl))
    obtain ⟨-, x1, x2⟩ := n3 j (by omega) hj
    refine ⟨b, w, k, en one (b + 2 * k), en two (b + 2 * k), W, b100, kc, ek, f1, f2, d1, d2, d3, ?_, ?_⟩
    · rw [x1]; congr 1; omega
    · rw [x2]; congr 1; omega
/-- which node has the edge e -/
theorem TR.edge (g : Gr E I) (h2 : Two E I) (t : TR E I kn sn an ln gn iN oe one two what piece kinds po nu up ju pa c sl' ct') :
    ∃ b w, b ≤ 100 ∧ b ≤ sl' ∧ WA b w what ct' ∧ sl' + 2 = b + 2 * ct' ∧ (∀ i, i < b → E (w i) ∧ ∃ q, q < ct' ∧ piece i = nI q ∧ nu q = oe (w i)) ∧ ∀ e, E e → ∃ i, i < b ∧ w i = e := by
  obtain ⟨fe, se, ho, kq, sl, ct, M, e0, r, P, T, par, lst, wt, num, b, w, M', R, N, F', W, hpa, V, hb, hw⟩ := t
  obtain ⟨F, h0, l0, hr, rc, O, h4, h5, h6⟩ := id R
  obtain ⟨o1, o2, o3, o4, o5, o6⟩ := id O
  obtain ⟨n1, n2, n3, n4, n5⟩ := N
  have c98 := F.ct98
  have c98' := F'.ct98
  have ln := F'.len
  have c1' := F'.ct1
  have wi : ∀ i, i < b → ∃ e, E e ∧ cnt e E = i ∧ w i = e := fun i hi => by
    rw [hb] at hi
    obtain ⟨e, -, he, ee⟩ := cnt_nth hi
    exact ⟨e, he, ee, by rw [← ee]; exact hw e he⟩
  refine ⟨b, w, F'.b100, by omega, W, ln, fun i hi => ?_, fun e he => ⟨cnt e E, by rw [hb]; exact cnt_step (g.1 e he) he, hw e he⟩⟩
  obtain ⟨e, he, ee, ew⟩ := wi i hi
  refine ⟨ew ▸ he, ?_⟩
  obtain ⟨s, sb, ls, es⟩ := F'.1.2.2.2.2.2.2.2.2.2 e he
  have si : s = i := by
    obtain ⟨e', he', ee', ew'⟩ := wi s sb
    have : e' = e := ew'.symm.trans es
    rw [← ee', this, ee]
  subst si
  obtain ⟨q, hq, tq⟩ := F'.pc ls
  obtain ⟨s', ls', m⟩ := mt_ex g h2 F F' ls
  obtain ⟨e1, e2⟩ := (mt_edge F F' ls ls' m).1 sb
  obtain ⟨p, hp, tp⟩ := F.pc ls'
  obtain ⟨j, hj, ej⟩ := o6 p s' hp tp
  subst ej
  obtain ⟨q', j', hq', hj', C', en', epo', enu', -⟩ := V (num j) (R.lt hj)
  have : j' = j := R.inj hj' hj en'
  subst this
  have : q' = q := cor_inj g h2 F F' hp hq' hq C' ⟨_, _, tq, tp, m⟩
  subst this
  refine ⟨q', hq, tq.2, ?_⟩
  rw [enu', ← e1]
  exact (n4 s' j' e2 hj tp).symm
end
