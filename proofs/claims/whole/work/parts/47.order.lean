/-! PURE PART XXI: least edges, weights and numbers -/
theorem dn1 (k : Nat) : nI (k + 1) + (-1) = nI k := by
  rw [← zI_succ]
  have : (1 : Int32) + (-1) = 0 := by decide
  rw [Int32.add_assoc, this]
  exact Int32.add_zero _
theorem dn2 (k : Nat) : nI k + (-1) + 1 = nI k := by
  have : (-1 : Int32) + 1 = 0 := by decide
  rw [Int32.add_assoc, this]
  exact Int32.add_zero _
theorem fordn3 {A C : Type} {F : (Int32 → A → C → Prop) → Int32 → A → C → Prop} (J : Nat → A → C → Prop) (k0 : Nat) (hk : k0 < 1000) (a : A) (c : C) (h : J k0 a c) (step : ∀ (K : Int32 → A → C → Prop) (k : Nat) (a : A) (c : C), k ≤ k0 → J k a c → (∀ k', k = k' + 1 → ∀ (a' : A) (c' : C), J k' a' c' → K (nI k' + (-1)) a' c') → F K (nI k + (-1)) a c) : ∃ n, sL3 F n (nI k0 + (-1)) a c := by
  refine sL3_of (F := F) (fun i a c => ∃ k, i = nI k + (-1) ∧ k ≤ k0 ∧ J k a c) (fun i _ _ => ix (i + 1)) ?_ _ _ _ ⟨k0, rfl, Nat.le_refl _, h⟩
  rintro K _ a c ⟨k, rfl, hk, hJ⟩ ih
  refine step K k a c hk hJ (fun k' e a' c' hy => ih _ a' c' ⟨k', rfl, by omega, hy⟩ ?_)
  rw [dn2, dn2, ix_nI (by omega), ix_nI (by omega)]; omega
/-- the least edge of each piece's own, and the piece of the least edge -/
theorem sp_findLeastEdges {E : Nat → Prop} {I : Nat → Nat → Prop} {fe se ho kq : Nat → Int32} {sl ct e0 r : Nat} {M : Nat → Nat → Prop} {row least : Nat → Int32} {post : (Nat → Int32) → (Nat → Int32) → Prop} (F : FP E I 100 (fun s => s) fe se ho kq sl ct M) (h0 : E e0) (l0 : ∀ e, e < e0 → ¬ E e) (hr : Tp ho sl r e0) (rc : r < ct)
    (h : ∀ row least, row 0 = nI r → (∀ p, p < ct → ∃ l, l ≤ 100 ∧ least p = nI l ∧ (l < 100 → Tp ho sl p l) ∧ ∀ e, e < 100 → Tp ho sl p e → l ≤ e) → post row least) : wp_Order_findLeastEdges row least ho post := by
  have c98 := F.ct98
  have ln := F.len
  have c1 := F.ct1
  unfold wp_Order_findLeastEdges
  refine sp_fillI (by omega) fun ls els => ?_
  have x0 : ix 0 = 0 := ix_nI (k := 0) (by omega)
  have e99 : (99 : Int32) = nI 100 + (-1) := by decide
  rw [e99]
  refine fordn3 (fun k row least => (∀ p, p < ct → ∃ l, l ≤ 100 ∧ least p = nI l ∧ (l < 100 → Tp ho sl p l) ∧ ∀ e, k ≤ e → e < 100 → Tp ho sl p e → l ≤ e) ∧ (k ≤ e0 → row 0 = nI r)) 100 (by omega) row ls ⟨fun p hp => ⟨100, by omega, els p (by omega), fun k => absurd k (by omega), fun e a b => absurd a (by omega)⟩, fun k => ?_⟩ (fun K k row least hk hJ nx => ⟨fun q => ?_, fun q => ?_⟩)
  · exfalso
    obtain ⟨s, hs, -, es⟩ := F.1.2.2.2.2.2.2.2.2.2 e0 h0
    have : s = e0 := es
    omega
  · have : k = 0 := Classical.byContradiction fun n => by
      obtain ⟨k', rfl⟩ : ∃ k', k = k' + 1 := ⟨k - 1, by omega⟩
      rw [dn1] at q
      exact zI_nn (by omega) q
    subst this
    refine h row least (hJ.2 (by omega)) fun p hp => ?_
    obtain ⟨l, a, b, c, d⟩ := hJ.1 p hp
    exact ⟨l, a, b, c, fun e => d e (by omega)⟩
  · obtain ⟨k', rfl⟩ : ∃ k', k = k' + 1 := Classical.byContradiction fun n => by
      have : k = 0 := Classical.byContradiction fun z => n ⟨k - 1, by omega⟩
      subst this
      exact q (by decide)
    rw [dn1, ix_nI (by omega)]
    refine ⟨(in_nI (by omega)).mpr (by omega), fun z => nx k' rfl _ _ ⟨fun p hp => ?_, fun y => ?_⟩, fun z => ?_⟩
    · obtain ⟨l, a, b, c, d⟩ := hJ.1 p hp
      refine ⟨l, a, b, c, fun e he h100 t => ?_⟩
      have : e ≠ k' := fun y => by
        rw [y] at t
        exact zI_ne (by omega) (t.2.symm.trans z)
      exact d e (by omega) h100 t
    · have : k' ≠ e0 := fun y => by
        rw [y] at z
        exact zI_ne (by omega) (hr.2.symm.trans z)
      exact hJ.2 (by omega)
    · obtain ⟨p0, hp0, t0⟩ := F.pc (s := k') ⟨by omega, z⟩
      rw [t0.2, ix_nI (by omega), x0]
      refine ⟨(in_nI (by omega)).mpr (by omega), fun l8 e8 => ⟨(in_nI (k := 0) (by omega)).mpr (by omega), fun r10 e10 => nx k' rfl _ _ ⟨fun p hp => ?_, fun y => ?_⟩⟩⟩
      · by_cases t : p = p0
        · subst t
          exact ⟨k', by omega, by rw [e8, upd_at], fun _ => t0, fun e he _ _ => he⟩
        · obtain ⟨l, a, b, c, d⟩ := hJ.1 p hp
          refine ⟨l, a, by rw [e8, upd_ne t]; exact b, c, fun e he h100 te => ?_⟩
          have : e ≠ k' := fun y => by
            rw [y] at te
            exact t (Tp_uni te t0 (by omega) (by omega))
          exact d e (by omega) h100 te
      · rw [e10, upd_at]
        by_cases t : k' = e0
        · rw [t] at t0
          rw [Tp_uni t0 hr (by omega) (by omega)]
        · exfalso
          obtain ⟨a, -⟩ := F.edge (by omega) t0 (by omega)
          exact l0 k' (by omega) a
/-- the row: piece P j, its side T j up, the one above it par j -/
def O1 (ho : Nat → Int32) (sl ct e0 r : Nat) (M : Nat → Nat → Prop) (c : Nat) (P T par : Nat → Nat) : Prop :=
  (∀ j, j < c → P j < ct ∧ ∃ s, Tp ho sl (P j) s) ∧ (∀ j k, j < c → k < c → P j = P k → j = k) ∧ (1 ≤ c ∧ P 0 = r) ∧
  (∀ j, 1 ≤ j → j < c → 100 ≤ T j ∧ Tp ho sl (P j) (T j) ∧ M (T j) e0 ∧ par j < j ∧ Tp ho sl (P (par j)) (ptb 100 (T j))) ∧
  (∀ k s, k < c → 100 ≤ s → Tp ho sl (P k) s → ¬ M s e0 → ∃ j, 1 ≤ j ∧ j < c ∧ T j = ptb 100 s ∧ par j = k) ∧ (∀ p s, p < ct → Tp ho sl p s → ∃ j, j < c ∧ P j = p)
/-- the edges below piece j of the row -/
def Dj (M : Nat → Nat → Prop) (T : Nat → Nat) (j e : Nat) : Prop := j = 0 ∨ ¬ M (T j) e
section
variable {E : Nat → Prop} {I : Nat → Nat → Prop} {fe se ho kq : Nat → Int32} {sl ct e0 r : Nat} {M : Nat → Nat → Prop} {row above sideUp : Nat → Int32} {i c : Nat} {P T par lst wt num : Nat → Nat}
theorem LR.o1 (F : FP E I 100 (fun s => s) fe se ho kq sl ct M) (h0 : E e0) (hr : Tp ho sl r e0) (rc : r < ct) (L : LR ho sl ct e0 r M i 100 c row above sideUp) (ci : c ≤ i) :
    ∃ T par : Nat → Nat, O1 ho sl ct e0 r M c (en row) T par ∧ (∀ j, 1 ≤ j → j < c → sideUp (en row j) = nI (T j) ∧ above (en row j) = nI (en row (par j))) := by
  have c98 := F.ct98
  have l294 := F.sl294
  obtain ⟨l1, l2, l3, l4, l5⟩ := id L
  have e100 : e0 < 100 := by
    obtain ⟨s, hs, -, es⟩ := F.1.2.2.2.2.2.2.2.2.2 e0 h0
    have : s = e0 := es
    omega
  have sk : ∀ j, ∃ x : Nat × Nat, 1 ≤ j → j < c → sideUp (en row j) = nI x.1 ∧ 100 ≤ x.1 ∧ Tp ho sl (en row j) x.1 ∧ M x.1 e0 ∧ x.2 < j ∧ above (en row j) = nI (en row x.2) ∧ Tp ho sl (en row x.2) (ptb 100 x.1) := fun j => by
    by_cases z : 1 ≤ j ∧ j < c
    · obtain ⟨t, k, x1, x2, x3, x4, x5, x6, x7, -⟩ := l4 j z.1 z.2
      exact ⟨(t, k), fun _ _ => ⟨x1, x2, x3, x4, x5, x6, x7⟩⟩
    · exact ⟨(0, 0), fun a b => absurd ⟨a, b⟩ z⟩
  obtain ⟨f, hf⟩ := Classical.skolem.mp sk
  have g1 : ∀ k s, k < c → 100 ≤ s → Tp ho sl (en row k) s → ¬ M s e0 → ∃ j, 1 ≤ j ∧ j < c ∧ (f j).1 = ptb 100 s ∧ (f j).2 = k := fun k s hk hs ts nm => by
    obtain ⟨j, j1, j2, j3⟩ := l5 k s hk hs ts nm (by omega)
    obtain ⟨y1, y2, y3, y4, y5, y6, y7⟩ := hf j j1 j2
    obtain ⟨p1, p2, p3⟩ := ptb_inv hs
    have a : (f j).1 = ptb 100 s := by
      have s1 := y3.1
      have s2 := ts.1
      have : ptb 100 s < 1000 := by unfold ptb; split <;> omega
      have := y1.symm.trans j3
      rw [zI_eq (by omega) (by omega)] at this
      exact this
    refine ⟨j, j1, j2, a, ?_⟩
    rw [a, p2] at y7
    have kc := (l1 k hk).2.1
    have kc2 := (l1 (f j).2 (by omega)).2.1
    exact l2 _ _ (by omega) hk (Tp_uni y7 ts (by omega) (by omega))
  refine ⟨fun j => (f j).1, fun j => (f j).2, ⟨fun j hj => (l1 j hj).2, l2, ⟨l3.1, l3.2.1⟩, fun j a b => ?_, g1, ?_⟩, fun j a b => ?_⟩
  · obtain ⟨y1, y2, y3, y4, y5, y6, y7⟩ := hf j a b
    exact ⟨y2, y3, y4, y5, y7⟩
  · -- every piece is in the row
    have main : ∀ n p t, p < ct → Tp ho sl p t → M t e0 → cnt 100 (fun e => E e ∧ M t e) ≤ n → ∃ j, j < c ∧ en row j = p := by
      intro n
      induction n with
      | zero =>
        intro p t hp tt mt hn
        have := cnt_zero (n := 100) (P := fun e => E e ∧ M t e) (by omega) e100
        exact absurd ⟨h0, mt⟩ this
      | succ n ih =>
        intro p t hp tt mt hn
        by_cases z : 100 ≤ t
        · obtain ⟨q, hq, tq, qp, mc⟩ := F.other (by omega) tt z
          obtain ⟨p1, p2, p3⟩ := ptb_inv z
          have nq : ¬ M (ptb 100 t) e0 := fun k => (mc e0 h0).mp k mt
          obtain ⟨t1, tt1, mt1⟩ := F.cov (by omega) tq h0
          have n1 : t1 ≠ ptb 100 t := fun k => nq (k ▸ mt1)
          -- a third slot above
          have : ∃ r, Tp ho sl q r ∧ r ≠ t1 ∧ r ≠ ptb 100 t := by
            obtain ⟨x, y, tx, ty, xn, yn, xy⟩ := F.three (by omega) tq
            by_cases e : x = t1
            · exact ⟨y, ty, fun k => xy (e.trans k.symm), yn⟩
            · exact ⟨x, tx, e, xn⟩
          obtain ⟨r', tr', rn1, rn2⟩ := this
          obtain ⟨e', he', me'⟩ := F.some (by omega) tr'
          have inM : ∀ s, Tp ho sl q s → s ≠ ptb 100 t → ∀ e, E e → M s e → M t e := fun s ts sn e he ms => Classical.byContradiction fun k =>
            sn (F.uni (by omega) ts tq he ms ((mc e he).mpr k))
          have lt := cnt_lt (n := 100) (P := fun e => E e ∧ M t1 e) (Q := fun e => E e ∧ M t e) (fun e _ k => ⟨k.1, inM t1 tt1 n1 e k.1 k.2⟩) (u := e') (by
            obtain ⟨s, hs, -, es⟩ := F.1.2.2.2.2.2.2.2.2.2 e' he'
            have : s = e' := es
            omega) ⟨he', inM r' tr' rn2 e' he' me'⟩ (fun k => rn1 (F.uni (by omega) tr' tt1 he' me' k.2))
          obtain ⟨k, hk, ek⟩ := ih q t1 hq tt1 mt1 (by omega)
          obtain ⟨j, j1, j2, j3, j4⟩ := g1 k (ptb 100 t) hk p1 (ek ▸ tq) nq
          refine ⟨j, j2, ?_⟩
          obtain ⟨y1, y2, y3, -⟩ := hf j j1 j2
          rw [j3, p2] at y3
          have := (l1 j j2).2.1
          exact Tp_uni y3 tt (by omega) (by omega)
        · have a := ((F.edge (by omega) tt (by omega)).2 e0 h0).mp mt
          have a : e0 = t := a
          refine ⟨0, by omega, ?_⟩
          rw [l3.2.1]
          exact Tp_uni hr (a ▸ tt) (by omega) (by omega)
    intro p s hp ts
    obtain ⟨t, tt, mt⟩ := F.cov (by omega) ts h0
    exact main _ p t hp tt mt (Nat.le_refl _)
  · obtain ⟨y1, y2, y3, y4, y5, y6, y7⟩ := hf j a b
    exact ⟨y1, y6⟩
theorem sumN_upd {f : Nat → Nat} {a x : Nat} : ∀ n : Nat, a < n → sumN n (fun j => if j = a then f a + x else f j) = sumN n f + x
  | 0, h => absurd h (Nat.not_lt_zero _)
  | n + 1, h => by
    show sumN n (fun j => if j = a then f a + x else f j) + (if n = a then f a + x else f n) = sumN n f + f n + x
    by_cases z : n = a
    · subst z
      rw [if_pos rfl, sumN_congr (g := fun j => if j = n then f n + x else f j) (k := f) n (fun j hj => if_neg (by omega))]; omega
    · rw [if_neg z, sumN_upd n (by omega)]; omega
theorem sumN_ins {f : Nat → Nat} {Q Q' : Nat → Prop} {a n : Nat} (ha : a < n) (nq : ¬ Q a) (h : ∀ m, m < n → (Q' m ↔ Q m ∨ m = a)) : sumN n (fun m => pr (Q' m) * f m) = sumN n (fun m => pr (Q m) * f m) + f a := by
  have e : sumN n (fun m => pr (Q' m) * f m) = sumN n (fun m => pr (Q m) * f m + (if m = a then f a else 0)) := sumN_congr n fun m hm => by
    by_cases z : m = a
    · subst z
      rw [pr_t ((h m hm).mpr (Or.inr rfl)), pr_f nq, if_pos rfl]; omega
    · rw [if_neg z]
      have : Q' m ↔ Q m := (h m hm).trans ⟨fun k => k.resolve_right z, Or.inl⟩
      rw [pr_congr this]; rfl
  rw [e, sumN_add, sumN_one (g := fun m => if m = a then f a else 0) n ha (fun x _ n => if_neg n), if_pos rfl]
def O4 (E : Nat → Prop) (M : Nat → Nat → Prop) (c : Nat) (T lst : Nat → Nat) : Prop := ∀ j, j < c → E (lst j) ∧ Dj M T j (lst j) ∧ ∀ e, E e → Dj M T j e → lst j ≤ e
noncomputable def chs (c : Nat) (par wt : Nat → Nat) (j : Nat) : Nat := sumN c (fun m => pr (1 ≤ m ∧ par m = j) * wt m)
noncomputable def les (c : Nat) (par lst wt : Nat → Nat) (j : Nat) : Nat := sumN c (fun m => pr (1 ≤ m ∧ par m = par j ∧ lst m < lst j) * wt m)
def O5 (c : Nat) (par wt : Nat → Nat) : Prop := (∀ j, j < c → wt j = 1 + chs c par wt j) ∧ wt 0 = c
def O6 (c : Nat) (par lst wt num : Nat → Nat) : Prop := num 0 = 0 ∧ ∀ j, 1 ≤ j → j < c → num j = num (par j) + 1 + les c par lst wt j
/-- what lies below a piece below lies below it -/
theorem Dj_sub (F : FP E I 100 (fun s => s) fe se ho kq sl ct M) (O : O1 ho sl ct e0 r M c P T par) (h0 : E e0) {m e : Nat} (m1 : 1 ≤ m) (mc : m < c) (he : E e) (d : Dj M T m e) : Dj M T (par m) e := by
  have c98 := F.ct98
  obtain ⟨o1, o2, o3, o4, o5, o6⟩ := O
  by_cases z : par m = 0
  · exact Or.inl z
  obtain ⟨a1, a2, a3, a4, a5⟩ := o4 m m1 mc
  obtain ⟨b1, b2, b3, b4, b5⟩ := o4 (par m) (by omega) (by omega)
  have pm := (o1 (par m) (by omega)).1
  have pj := (o1 m mc).1
  refine Or.inr fun k => ?_
  have nd : ¬ M (T m) e := d.resolve_left (by omega)
  obtain ⟨q, hq, tq, qp, mcx⟩ := F.other (by omega) a2 a1
  have me : M (ptb 100 (T m)) e := (mcx e he).mpr nd
  have eq : ptb 100 (T m) = T (par m) := F.uni (by omega) a5 b2 he me k
  exact (mcx e0 h0).mp (eq ▸ b3) a3
theorem sp_sumUp {least weight : Nat → Int32} {post : (Nat → Int32) → (Nat → Int32) → Prop} (F : FP E I 100 (fun s => s) fe se ho kq sl ct M) (h0 : E e0) (hr : Tp ho sl r e0) (O : O1 ho sl ct e0 r M c P T par) (hrow : ∀ j, j < c → row j = nI (P j)) (hab : ∀ j, 1 ≤ j → j < c → above (P j) = nI (P (par j)))
    (hl : ∀ p, p < ct → ∃ l, l ≤ 100 ∧ least p = nI l ∧ (l < 100 → Tp ho sl p l) ∧ ∀ e, e < 100 → Tp ho sl p e → l ≤ e)
    (h : ∀ least weight lst wt, (∀ j, j < c → least (P j) = nI (lst j) ∧ weight (P j) = nI (wt j)) → O4 E M c T lst → O5 c par wt → post least weight) : wp_Order_sumUp row above least weight (nI c) post := by
  have c98 := F.ct98
  obtain ⟨o1, o2, o3, o4, o5, o6⟩ := id O
  have cc : c ≤ ct := pig (f := P) (fun j hj => (o1 j hj).1) o2
  unfold wp_Order_sumUp
  refine sp_fillI (by omega) fun w1 ew => ?_
  have ec : nI c - 1 = nI c + (-1) := by
    rw [zI_pred o3.1]
    have := dn1 (c - 1)
    rw [show c - 1 + 1 = c by omega] at this
    exact this.symm
  rw [ec]
  have sk : ∀ j, ∃ l, j < c → l ≤ 100 ∧ least (P j) = nI l ∧ (l < 100 → Tp ho sl (P j) l) ∧ ∀ e, e < 100 → Tp ho sl (P j) e → l ≤ e := fun j => by
    by_cases z : j < c
    · obtain ⟨l, k⟩ := hl (P j) (o1 j z).1
      exact ⟨l, fun _ => k⟩
    · exact ⟨0, fun k => absurd k z⟩
  obtain ⟨l0, hl0⟩ := Classical.skolem.mp sk
  refine fordn3 (fun k least weight => ∃ lN wN : Nat → Nat, (∀ j, j < c → least (P j) = nI (lN j) ∧ weight (P j) = nI (wN j) ∧ lN j ≤ 100) ∧ (∀ j, j < c → lN j < 100 → E (lN j) ∧ Dj M T j (lN j)) ∧ (∀ j e, j < c → e < 100 → Tp ho sl (P j) e → lN j ≤ e) ∧ (∀ m, 1 ≤ m → k ≤ m → m < c → lN (par m) ≤ lN m) ∧ (∀ j, j < c → wN j = 1 + sumN c (fun m => pr (k ≤ m ∧ 1 ≤ m ∧ par m = j) * wN m)) ∧ sumN k wN = c ∧ 1 ≤ k) c (by omega) least w1 ⟨l0, fun _ => 1, fun j hj => ⟨(hl0 j hj).2.1, ew _ (by have := (o1 j hj).1; omega), (hl0 j hj).1⟩, fun j hj lt => ?_, fun j e hj he t => (hl0 j hj).2.2.2 e he t, fun m a b d => by omega, fun j hj => ?_, (sumN_const 1 c).trans (Nat.one_mul c), o3.1⟩ (fun K k least weight hk hJ nx => ?_)
  · have t := (hl0 j hj).2.2.1 lt
    have pj := (o1 j hj).1
    obtain ⟨a, b⟩ := F.edge (by omega) t lt
    refine ⟨a, ?_⟩
    by_cases z : j = 0
    · exact Or.inl z
    · refine Or.inr fun k => ?_
      obtain ⟨a1, a2, -⟩ := o4 j (by omega) hj
      have := F.uni (by omega) t a2 a ((b (l0 j) a).mpr rfl) k
      omega
  · rw [sumN_zero c (fun m hm => by rw [pr_f (fun y => absurd y.1 (by omega))]; exact Nat.zero_mul _)]
  · obtain ⟨lN, wN, j1, j2, j3, j4, j5, j6, j7⟩ := hJ
    have hk1 : nI k + (-1) ≤ 0 ↔ k ≤ 1 := by
      obtain ⟨k', rfl⟩ : ∃ k', k = k' + 1 := ⟨k - 1, by omega⟩
      rw [dn1, L0, zI_le (by omega) (by omega)]; omega
    rw [hk1]
    refine ⟨fun q => ?_, fun q => ?_⟩
    · have : k = 1 := by omega
      subst this
      have B : ∀ n j, j < c → c - j ≤ n → ∀ e, E e → Dj M T j e → lN j ≤ e := by
        intro n
        induction n with
        | zero => intro j hj hn; omega
        | succ n ih =>
          intro j hj hn e he d
          have pj := (o1 j hj).1
          obtain ⟨s0, ts0⟩ := (o1 j hj).2
          obtain ⟨s, ts, ms⟩ := F.cov (by omega) ts0 he
          by_cases z : s < 100
          · have := ((F.edge (by omega) ts z).2 e he).mp ms
            have : e = s := this
            rw [this]; exact j3 j s hj z ts
          · have nm : ¬ M s e0 := fun y => by
              by_cases y0 : j = 0
              · rw [y0, o3.2] at ts
                exact LR.up0 F h0 hr (by have := (o1 0 (by omega)).1; rw [o3.2] at this; exact this) (by omega) ts y
              · obtain ⟨a1, a2, a3, -⟩ := o4 j (by omega) hj
                have := F.uni (by omega) ts a2 h0 y a3
                rw [this] at ms
                exact (d.resolve_left y0) ms
            obtain ⟨m, m1, m2, m3, m4⟩ := o5 j s hj (by omega) ts nm
            obtain ⟨a1, a2, a3, a4, a5⟩ := o4 m m1 m2
            obtain ⟨q, hq, tq, -, mc⟩ := F.other (by omega) ts (by omega)
            have dm : Dj M T m e := Or.inr (by rw [m3]; exact fun y => (mc e he).mp y ms)
            have := ih m m2 (by omega) e he dm
            have := j4 m m1 m1 m2
            rw [m4] at this
            omega
      refine h least weight lN wN (fun j hj => ⟨(j1 j hj).1, (j1 j hj).2.1⟩) (fun j hj => ?_) ⟨fun j hj => ?_, ?_⟩
      · -- some edge lies below
        have ex : ∃ e, E e ∧ Dj M T j e := by
          by_cases z : j = 0
          · exact ⟨e0, h0, Or.inl z⟩
          · obtain ⟨a1, a2, -⟩ := o4 j (by omega) hj
            have pj := (o1 j hj).1
            obtain ⟨x, -, tx, -, xn, -, -⟩ := F.three (by omega) a2
            obtain ⟨e, he, me⟩ := F.some (by omega) tx
            exact ⟨e, he, Or.inr fun y => xn (F.uni (by omega) tx a2 he me y)⟩
        obtain ⟨e, he, de⟩ := ex
        have le := B _ j hj (Nat.le_refl _) e he de
        have : e < 100 := by
          obtain ⟨s, hs, -, es⟩ := F.1.2.2.2.2.2.2.2.2.2 e he
          have : s = e := es
          omega
        obtain ⟨a, b⟩ := j2 j hj (by omega)
        exact ⟨a, b, fun e he d => B _ j hj (Nat.le_refl _) e he d⟩
      · rw [j5 j hj]
        unfold chs
        congr 1
        exact sumN_congr c fun m hm => by rw [pr_congr (show (1 ≤ m ∧ 1 ≤ m ∧ par m = j) ↔ (1 ≤ m ∧ par m = j) from ⟨fun y => y.2, fun y => ⟨y.1, y⟩⟩)]
      · have : sumN 1 wN = 0 + wN 0 := rfl
        omega
    · obtain ⟨m, rfl⟩ : ∃ m, k = m + 1 := ⟨k - 1, by omega⟩
      have mc : m < c := by omega
      obtain ⟨a1, a2, a3, a4, a5⟩ := o4 m (by omega) mc
      have pm := (o1 m mc).1
      have pp := (o1 (par m) (by omega)).1
      obtain ⟨x1, x2, x3⟩ := j1 m mc
      obtain ⟨y1, y2, y3⟩ := j1 (par m) (by omega)
      have im : vp_in (nI (P m)) 98 := (in_nI (by omega)).mpr (by omega)
      have ip : vp_in (nI (P (par m))) 98 := (in_nI (by omega)).mpr (by omega)
      rw [dn1, ix_nI (k := m) (by omega), hrow m mc, ix_nI (k := P m) (by omega), hab m (by omega) mc, ix_nI (k := P (par m)) (by omega)]
      refine ⟨(in_nI (by omega)).mpr (by omega), im, ip, fun x8 e8 => ⟨im, fun x10 e10 => ⟨ip, fun l12 e12 => ⟨ip, fun x14 e14 => ⟨im, ip, fun w16 e16 => ?_⟩⟩⟩⟩⟩
      rw [x1, e8, y1] at e10
      have e10' : x10 = nI (min (lN m) (lN (par m))) := by
        rw [e10]
        by_cases z : lN m < lN (par m)
        · rw [if_pos ((zI_lt (by omega) (by omega)).mpr z)]; congr 1; omega
        · rw [if_neg (fun y => z ((zI_lt (by omega) (by omega)).mp y))]; congr 1; omega
      have e16' : w16 = upd weight (P (par m)) (nI (wN (par m) + wN m)) := by rw [e16, e14, y2, x2, zI_add]
      have inj : ∀ j, j < c → (P j = P (par m) ↔ j = par m) := fun j hj => ⟨fun y => o2 j _ hj (by omega) y, fun y => by rw [y]⟩
      refine nx m rfl l12 w16 ⟨fun j => if j = par m then min (lN m) (lN (par m)) else lN j, fun j => if j = par m then wN (par m) + wN m else wN j, fun j hj => ?_, fun j hj lt => ?_, fun j e hj he t => ?_, fun m' c1 c2 c3 => ?_, fun j hj => ?_, ?_, by omega⟩
      · dsimp only
        by_cases z : j = par m
        · rw [z, if_pos rfl, if_pos rfl, e12, e16', upd_at, upd_at, e10']
          exact ⟨rfl, rfl, by omega⟩
        · have n : P j ≠ P (par m) := fun y => z ((inj j hj).mp y)
          rw [if_neg z, if_neg z, e12, e16', upd_ne n, upd_ne n]
          exact j1 j hj
      · dsimp only at lt ⊢
        by_cases z : j = par m
        · rw [if_pos z] at lt ⊢
          rw [z]
          by_cases y : lN m < lN (par m)
          · have : min (lN m) (lN (par m)) = lN m := by omega
            rw [this] at lt ⊢
            obtain ⟨u1, u2⟩ := j2 m mc lt
            exact ⟨u1, Dj_sub F O h0 (by omega) mc u1 u2⟩
          · have : min (lN m) (lN (par m)) = lN (par m) := by omega
            rw [this] at lt ⊢
            exact j2 (par m) (by omega) lt
        · rw [if_neg z] at lt ⊢
          exact j2 j hj lt
      · have := j3 j e hj he t
        dsimp only
        by_cases z : j = par m
        · rw [if_pos z]; rw [z] at this; omega
        · rw [if_neg z]; exact this
      · have a4' := (o4 m' c1 c3).2.2.2.1
        have nm' : m' ≠ par m := by omega
        dsimp only
        rw [if_neg nm']
        by_cases z : m' = m
        · rw [z, if_pos rfl]; omega
        · have := j4 m' c1 (by omega) c3
          by_cases y : par m' = par m
          · rw [if_pos y]; rw [y] at this; omega
          · rw [if_neg y]; exact this
      · -- the sums
        have ext : sumN c (fun m' => pr (m ≤ m' ∧ 1 ≤ m' ∧ par m' = j) * (if m' = par m then wN (par m) + wN m else wN m')) = sumN c (fun m' => pr (m ≤ m' ∧ 1 ≤ m' ∧ par m' = j) * wN m') := sumN_congr c fun m' hm' => by
          by_cases z : m ≤ m'
          · rw [if_neg (by omega)]
          · rw [pr_f (fun y => z y.1), Nat.zero_mul, Nat.zero_mul]
        dsimp only
        rw [ext]
        by_cases z : j = par m
        · rw [if_pos z, sumN_ins (Q := fun m' => m + 1 ≤ m' ∧ 1 ≤ m' ∧ par m' = j) (a := m) mc (by omega) (fun m' _ => ⟨fun y => by omega, fun y => y.elim (fun y => ⟨by omega, y.2⟩) (fun y => by rw [y]; exact ⟨by omega, by omega, z.symm⟩)⟩)]
          have := j5 j hj
          rw [← z] at *
          omega
        · rw [if_neg z, j5 j hj]
          congr 1
          exact sumN_congr c fun m' hm' => by
            rw [pr_congr (show (m + 1 ≤ m' ∧ 1 ≤ m' ∧ par m' = j) ↔ (m ≤ m' ∧ 1 ≤ m' ∧ par m' = j) from ⟨fun y => ⟨by omega, y.2⟩, fun y => ⟨by
              have : m' ≠ m := fun t => z (by rw [← t]; exact y.2.2.symm)
              omega, y.2⟩⟩)]
      · have := sumN_upd (f := wN) (x := wN m) m a4
        rw [this]
        exact j6
end
