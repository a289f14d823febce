/-! PURE PART XX: the class lays its pieces in a row -/
theorem pig_le {f : Nat → Nat} {m : Nat} : ∀ c : Nat, (∀ j, j < c → f j < m) → (∀ j k, j < c → k < c → f j = f k → j = k) → c ≤ cnt m (fun x => ∃ j, j < c ∧ f j = x)
  | 0, _, _ => Nat.zero_le _
  | c + 1, h, i => by
    have ih := pig_le (f := f) (m := m) c (fun j hj => h j (by omega)) (fun j k hj hk => i j k (by omega) (by omega))
    have := cnt_lt (n := m) (P := fun x => ∃ j, j < c ∧ f j = x) (Q := fun x => ∃ j, j < c + 1 ∧ f j = x) (fun x _ ⟨j, hj, e⟩ => ⟨j, by omega, e⟩) (h c (by omega)) ⟨c, by omega, rfl⟩ (fun ⟨j, hj, e⟩ => by have := i j c (by omega) (by omega) e; omega)
    omega
theorem pig {f : Nat → Nat} {m c : Nat} (h : ∀ j, j < c → f j < m) (i : ∀ j k, j < c → k < c → f j = f k → j = k) : c ≤ m := Nat.le_trans (pig_le c h i) (cnt_le _ _)
theorem ptb_inv {b s : Nat} (h : b ≤ s) : b ≤ ptb b s ∧ ptb b (ptb b s) = s ∧ ptb b s ≠ s := by
  unfold ptb
  by_cases z : (s - b) % 2 = 0
  · rw [if_pos z, if_neg (by omega)]; omega
  · rw [if_neg z, if_pos (by omega)]; omega
theorem xor1 : ∀ s : Nat, s < 294 → 100 ≤ s → nI s ^^^ 1 = nI (ptb 100 s) := by decide +kernel
section
variable {E : Nat → Prop} {I : Nat → Nat → Prop} {b : Nat} {w : Nat → Nat} {fe se ho kq : Nat → Int32} {sl ct e0 r : Nat} {M : Nat → Nat → Prop}
theorem FP.ct98 (F : FP E I b w fe se ho kq sl ct M) : ct ≤ 98 := F.2.2.2.2.2.2.2
theorem FP.ct1 (F : FP E I b w fe se ho kq sl ct M) : 1 ≤ ct := F.2.2.2.2.2.1
theorem FP.b100 (F : FP E I b w fe se ho kq sl ct M) : b ≤ 100 := F.2.2.2.2.2.2.1
theorem FP.len (F : FP E I b w fe se ho kq sl ct M) : sl + 2 = b + 2 * ct := F.2.2.2.2.1
theorem FP.sl294 (F : FP E I b w fe se ho kq sl ct M) : sl ≤ 294 := by
  have := F.len
  have := F.ct98
  have := F.b100
  omega
theorem FP.pc (F : FP E I b w fe se ho kq sl ct M) {s : Nat} (h : livS ho sl s) : ∃ p, p < ct ∧ Tp ho sl p s := by
  obtain ⟨p, hp, e⟩ := F.2.2.1 s h
  exact ⟨p, hp, h.1, e⟩
theorem FP.lv (F : FP E I b w fe se ho kq sl ct M) {p s : Nat} (h : Tp ho sl p s) (hp : p < 98) : livS ho sl s := ((Tp_iff (by omega)).mp h).1
theorem Tp_hm {p q s t : Nat} (h1 : Tp ho sl p s) (h2 : Tp ho sl q t) (hp : p < 98) (hq : q < 98) : hm ho s = hm ho t ↔ p = q := by
  rw [(hm_nI (by omega)).mpr h1.2, (hm_nI (by omega)).mpr h2.2]; omega
theorem Tp_uni {p q s : Nat} (h1 : Tp ho sl p s) (h2 : Tp ho sl q s) (hp : p < 98) (hq : q < 98) : p = q := by
  have := h1.2.symm.trans h2.2
  rw [zI_eq (by omega) (by omega)] at this
  exact this
/-- two slots of a piece with one edge beyond are one -/
theorem FP.uni (F : FP E I b w fe se ho kq sl ct M) {p s t e : Nat} (hp : p < 98) (hs : Tp ho sl p s) (ht : Tp ho sl p t) (he : E e) (ms : M s e) (mt : M t e) : s = t := Classical.byContradiction fun n =>
  F.1.2.1 s t (F.lv hs hp) (F.lv ht hp) ((Tp_hm hs ht hp hp).mpr rfl) n e he ms mt
theorem FP.cov (F : FP E I b w fe se ho kq sl ct M) {p s e : Nat} (hp : p < 98) (hs : Tp ho sl p s) (he : E e) : ∃ t, Tp ho sl p t ∧ M t e := by
  obtain ⟨t, ht, et, mt⟩ := F.1.2.2.1 s (F.lv hs hp) e he
  exact ⟨t, (Tp_iff (by omega)).mpr ⟨ht, et.trans ((Tp_iff (by omega)).mp hs).2⟩, mt⟩
/-- a joint's other side -/
theorem FP.other (F : FP E I b w fe se ho kq sl ct M) {p s : Nat} (hp : p < 98) (hs : Tp ho sl p s) (hb : b ≤ s) : ∃ q, q < ct ∧ Tp ho sl q (ptb b s) ∧ q ≠ p ∧ ∀ e, E e → (M (ptb b s) e ↔ ¬ M s e) := by
  obtain ⟨c1, c2, c3⟩ := F.1.2.2.2.2.2.2.1 s (F.lv hs hp) hb
  obtain ⟨q, hq, tq⟩ := F.pc c1
  have := F.ct98
  exact ⟨q, hq, tq, fun k => c2 ((Tp_hm tq hs (by omega) hp).mpr k), c3⟩
theorem FP.three (F : FP E I b w fe se ho kq sl ct M) {p s : Nat} (hp : p < 98) (hs : Tp ho sl p s) : ∃ t q, Tp ho sl p t ∧ Tp ho sl p q ∧ t ≠ s ∧ q ≠ s ∧ t ≠ q := by
  obtain ⟨t, q, ht, hq, et, eq, n⟩ := F.1.2.2.2.2.2.1 s (F.lv hs hp)
  exact ⟨t, q, (Tp_iff (by omega)).mpr ⟨ht, et.trans ((Tp_iff (by omega)).mp hs).2⟩, (Tp_iff (by omega)).mpr ⟨hq, eq.trans ((Tp_iff (by omega)).mp hs).2⟩, n⟩
theorem FP.some (F : FP E I b w fe se ho kq sl ct M) {p s : Nat} (hp : p < 98) (hs : Tp ho sl p s) : ∃ e, E e ∧ M s e := F.1.2.2.2.1 s (F.lv hs hp)
/-- an edge's slot -/
theorem FP.edge (F : FP E I b w fe se ho kq sl ct M) {p s : Nat} (hp : p < 98) (hs : Tp ho sl p s) (hb : s < b) : E (w s) ∧ ∀ e, E e → (M s e ↔ e = w s) := F.1.2.2.2.2.2.2.2.2.1 s (F.lv hs hp) hb
/-- the pieces in the row so far: all sides of those before i are followed, of i those before sd -/
def LR (ho : Nat → Int32) (sl ct e0 r : Nat) (M : Nat → Nat → Prop) (i sd c : Nat) (row above sideUp : Nat → Int32) : Prop :=
  (∀ j, j < c → row j = nI (en row j) ∧ en row j < ct ∧ ∃ s, Tp ho sl (en row j) s) ∧ (∀ j k, j < c → k < c → en row j = en row k → j = k) ∧ (1 ≤ c ∧ en row 0 = r ∧ above r = -1 ∧ sideUp r = -1) ∧
  (∀ j, 1 ≤ j → j < c → ∃ t k, sideUp (en row j) = nI t ∧ 100 ≤ t ∧ Tp ho sl (en row j) t ∧ M t e0 ∧ k < j ∧ above (en row j) = nI (en row k) ∧ Tp ho sl (en row k) (ptb 100 t) ∧ (k < i ∨ (k = i ∧ ptb 100 t < sd))) ∧
  (∀ k s, k < c → 100 ≤ s → Tp ho sl (en row k) s → ¬ M s e0 → (k < i ∨ (k = i ∧ s < sd)) → ∃ j, 1 ≤ j ∧ j < c ∧ sideUp (en row j) = nI (ptb 100 s))
end
section
variable {E : Nat → Prop} {I : Nat → Nat → Prop} {w : Nat → Nat} {fe se ho kq : Nat → Int32} {sl ct e0 r : Nat} {M : Nat → Nat → Prop} {row above sideUp : Nat → Int32} {i sd c : Nat}
theorem LR.cct (L : LR ho sl ct e0 r M i sd c row above sideUp) : c ≤ ct := pig (f := en row) (fun j hj => (L.1 j hj).2.1) L.2.1
/-- in the root's piece the least edge itself has the least edge beyond -/
theorem LR.down (F : FP E I 100 (fun s => s) fe se ho kq sl ct M) (h0 : E e0) (hr : Tp ho sl r e0) (L : LR ho sl ct e0 r M i sd c row above sideUp) {k s : Nat} (hk : k < c) (hs : 100 ≤ s) (ts : Tp ho sl (en row k) s) (n : nI s ≠ sideUp (en row k)) : ¬ M s e0 := fun m => by
  have c98 := F.ct98
  have e100 : e0 < 100 := by
    obtain ⟨s, hs, -, es⟩ := F.1.2.2.2.2.2.2.2.2.2 e0 h0
    have : s = e0 := es
    omega
  have kc := (L.1 k hk).2.1
  by_cases z : k = 0
  · subst z
    rw [L.2.2.1.2.1] at ts kc
    have := F.uni (by omega) ts hr h0 m (((F.edge (by omega) hr e100).2 e0 h0).mpr rfl)
    omega
  · obtain ⟨t, k', e, ht, tt, mt, -⟩ := L.2.2.2.1 k (by omega) hk
    have := F.uni (by omega) ts tt h0 m mt
    exact n (by rw [e, this])
theorem LR.up0 (F : FP E I 100 (fun s => s) fe se ho kq sl ct M) (h0 : E e0) (hr : Tp ho sl r e0) (rc : r < ct) {t : Nat} (ht : 100 ≤ t) (tt : Tp ho sl r t) : ¬ M t e0 := fun m => by
  have c98 := F.ct98
  have e100 : e0 < 100 := by
    obtain ⟨s, hs, -, es⟩ := F.1.2.2.2.2.2.2.2.2.2 e0 h0
    have : s = e0 := es
    omega
  have := F.uni (by omega) tt hr h0 m (((F.edge (by omega) hr e100).2 e0 h0).mpr rfl)
  omega
theorem LR.skip (L : LR ho sl ct e0 r M i sd c row above sideUp) (h : 100 ≤ sd → Tp ho sl (en row i) sd → M sd e0) : LR ho sl ct e0 r M i (sd + 1) c row above sideUp := by
  obtain ⟨l1, l2, l3, l4, l5⟩ := L
  refine ⟨l1, l2, l3, fun j a b => ?_, fun k s a b c d e => ?_⟩
  · obtain ⟨t, k, x1, x2, x3, x4, x5, x6, x7, x8⟩ := l4 j a b
    exact ⟨t, k, x1, x2, x3, x4, x5, x6, x7, by omega⟩
  · by_cases z : k = i ∧ s = sd
    · rw [z.1, z.2] at c
      rw [z.2] at d
      exact absurd (h (z.2 ▸ b) c) d
    · exact l5 k s a b c d (by omega)
theorem LR.next (L : LR ho sl ct e0 r M i sl c row above sideUp) : LR ho sl ct e0 r M (i + 1) 100 c row above sideUp := by
  obtain ⟨l1, l2, l3, l4, l5⟩ := L
  refine ⟨l1, l2, l3, fun j a b => ?_, fun k s a b c d e => ?_⟩
  · obtain ⟨t, k, x1, x2, x3, x4, x5, x6, x7, x8⟩ := l4 j a b
    exact ⟨t, k, x1, x2, x3, x4, x5, x6, x7, by omega⟩
  · exact l5 k s a b c d (by have := c.1; omega)
theorem LR.add (F : FP E I 100 (fun s => s) fe se ho kq sl ct M) (h0 : E e0) (hr : Tp ho sl r e0) (rc : r < ct) (L : LR ho sl ct e0 r M i sd c row above sideUp) (hi : i < c) (hs : 100 ≤ sd) (ts : Tp ho sl (en row i) sd) (n : nI sd ≠ sideUp (en row i)) {q : Nat} (hq : q < ct) (tq : Tp ho sl q (ptb 100 sd)) :
    c < ct ∧ LR ho sl ct e0 r M i (sd + 1) (c + 1) (upd row c (nI q)) (upd above q (row i)) (upd sideUp q (nI (ptb 100 sd))) := by
  have c98 := F.ct98
  have nm := L.down F h0 hr hi hs ts n
  obtain ⟨l1, l2, l3, l4, l5⟩ := id L
  have ic := (l1 i hi).2.1
  obtain ⟨q', hq', tq', qn, mc⟩ := F.other (by omega) ts hs
  have : q' = q := Tp_uni tq' tq (by omega) (by omega)
  subst this
  have mq : M (ptb 100 sd) e0 := (mc e0 h0).mpr nm
  obtain ⟨p1, p2, p3⟩ := ptb_inv hs
  -- it is new
  have new : ∀ j, j < c → en row j ≠ q' := fun j hj k => by
    by_cases z : j = 0
    · rw [z, l3.2.1] at k
      exact LR.up0 F h0 hr rc p1 (k ▸ tq) mq
    · obtain ⟨t, k', x1, x2, x3, x4, x5, x6, x7, x8⟩ := l4 j (by omega) hj
      rw [k] at x3
      have e : t = ptb 100 sd := F.uni (by omega) x3 tq h0 x4 mq
      rw [e, p2] at x7 x8
      have := l2 k' i (by omega) hi (Tp_uni x7 ts (by have := (l1 k' (by omega)).2.1; omega) (by omega))
      omega
  have eo : ∀ j, j < c → en (upd row c (nI q')) j = en row j := fun j hj => by unfold en; rw [upd_ne (by omega)]
  have ec : en (upd row c (nI q')) c = q' := by unfold en; rw [upd_at, ix_nI (by omega)]
  have rq : r ≠ q' := fun k => new 0 (by omega) (l3.2.1.trans k)
  have R : LR ho sl ct e0 r M i (sd + 1) (c + 1) (upd row c (nI q')) (upd above q' (row i)) (upd sideUp q' (nI (ptb 100 sd))) := by
    refine ⟨fun j hj => ?_, fun j k hj hk e => ?_, ⟨by omega, by rw [eo 0 (by omega)]; exact l3.2.1, by rw [upd_ne rq]; exact l3.2.2.1, by rw [upd_ne rq]; exact l3.2.2.2⟩, fun j a b => ?_, fun k s a d x y e => ?_⟩
    · by_cases z : j = c
      · subst z; rw [ec, upd_at]; exact ⟨rfl, hq, _, tq⟩
      · rw [eo j (by omega), upd_ne z]; exact l1 j (by omega)
    · by_cases z : j = c <;> by_cases y : k = c
      · omega
      · rw [z, ec, eo k (by omega)] at e; exact absurd e.symm (new k (by omega))
      · rw [y, ec, eo j (by omega)] at e; exact absurd e (new j (by omega))
      · rw [eo j (by omega), eo k (by omega)] at e; exact l2 j k (by omega) (by omega) e
    · by_cases z : j = c
      · subst z
        rw [ec, upd_at, upd_at]
        refine ⟨ptb 100 sd, i, rfl, p1, tq, mq, hi, ?_, ?_, ?_⟩
        · rw [eo i hi]; exact (l1 i hi).1
        · rw [eo i hi, p2]; exact ts
        · rw [p2]; omega
      · obtain ⟨t, k', x1, x2, x3, x4, x5, x6, x7, x8⟩ := l4 j a (by omega)
        have nj := new j (by omega)
        rw [eo j (by omega), upd_ne nj, upd_ne nj]
        exact ⟨t, k', x1, x2, x3, x4, x5, by rw [eo k' (by omega)]; exact x6, by rw [eo k' (by omega)]; exact x7, by omega⟩
    · have kc : k < c := by omega
      rw [eo k kc] at x
      by_cases z : k = i ∧ s = sd
      · refine ⟨c, by omega, by omega, ?_⟩
        rw [ec, upd_at, z.2]
      · obtain ⟨j, j1, j2, j3⟩ := l5 k s kc d x y (by omega)
        refine ⟨j, j1, by omega, ?_⟩
        rw [eo j j2, upd_ne (new j j2)]; exact j3
  have := R.cct
  exact ⟨by omega, R⟩
theorem sp_layRow {count : Int32} {post : (Nat → Int32) → (Nat → Int32) → (Nat → Int32) → Int32 → Prop} (F : FP E I 100 (fun s => s) fe se ho kq sl ct M) (h0 : E e0) (hr : Tp ho sl r e0) (rc : r < ct) (r0 : row 0 = nI r) (h : ∀ i c row above sideUp, LR ho sl ct e0 r M i 100 c row above sideUp → c ≤ i → post row above sideUp (nI c)) : wp_Order_layRow row above sideUp count ho (nI sl) post := by
  have c98 := F.ct98
  have l294 := F.sl294
  have ln := F.len
  unfold wp_Order_layRow
  have i0 : vp_in 0 98 := (in_nI (k := 0) (by omega)).mpr (by omega)
  have x0 : ix 0 = 0 := ix_nI (k := 0) (by omega)
  have ir : vp_in (nI r) 98 := (in_nI (by omega)).mpr (by omega)
  rw [x0, r0, ix_nI (by omega)]
  refine ⟨i0, ir, fun a1 ea => ⟨i0, ir, fun s1 es => ?_⟩⟩
  have e0' : en row 0 = r := by unfold en; rw [r0, ix_nI (by omega)]
  have L0' : LR ho sl ct e0 r M 0 100 1 row a1 s1 := by
    refine ⟨fun j hj => ?_, fun j k hj hk _ => by omega, ⟨by omega, e0', by rw [ea, upd_at], by rw [es, upd_at]⟩, fun j a b => by omega, fun k s a b c d e => by omega⟩
    have : j = 0 := by omega
    rw [this, e0']; exact ⟨r0, rc, _, hr⟩
  refine for5 98 (fun i row above sideUp cnt => ∃ c, cnt = nI c ∧ i ≤ c ∧ LR ho sl ct e0 r M i 100 c row above sideUp) (by omega) 0 row a1 s1 1 (by omega) ⟨1, rfl, by omega, L0'⟩ ?_
  clear L0' e0' r0
  rintro K i row above sideUp _ hi ⟨c, rfl, ic, L⟩ nx
  have cc := L.cct
  refine ⟨fun q => ?_, fun q => ⟨fun q2 => ?_, fun q2 => ?_⟩⟩
  · rw [L98, zI_le (by omega) (by omega)] at q
    exact h i c _ _ _ L (by omega)
  · rw [zI_le (by omega) (by omega)] at q2
    exact h i c _ _ _ L (by omega)
  · rw [L98, zI_le (by omega) (by omega)] at q
    rw [zI_le (by omega) (by omega)] at q2
    refine for5 sl (fun sd row above sideUp cnt => ∃ c, cnt = nI c ∧ i < c ∧ 100 ≤ sd ∧ LR ho sl ct e0 r M i sd c row above sideUp) (by omega) 100 row above sideUp (nI c) (by omega) ⟨c, rfl, by omega, by omega, L⟩ ?_
    clear L cc ic q2
    rintro K2 sd row above sideUp _ hsd ⟨c, rfl, ic, s100, L⟩ nx2
    have cc := L.cct
    refine ⟨fun q3 => ?_, fun q3 => ?_⟩
    · rw [zI_le (by omega) (by omega)] at q3
      rw [zI_succ]
      have : sd = sl := by omega
      subst this
      exact nx (by omega) _ _ _ _ ⟨c, rfl, by omega, L.next⟩
    · rw [zI_le (by omega) (by omega)] at q3
      have ii : vp_in (nI i) 98 := (in_nI (by omega)).mpr (by omega)
      obtain ⟨a1, a2, a3⟩ := L.1 i ic
      have ip : vp_in (nI (en row i)) 98 := (in_nI (by omega)).mpr (by omega)
      rw [zI_succ, ix_nI (by omega), ix_nI (by omega), a1, ix_nI (by omega)]
      have skip : (100 ≤ sd → Tp ho sl (en row i) sd → M sd e0) → K2 (nI (sd + 1)) row above sideUp (nI c) := fun z => nx2 (by omega) _ _ _ _ ⟨c, rfl, ic, by omega, L.skip z⟩
      refine ⟨(in_nI (by omega)).mpr (by omega), ii, fun z => skip fun _ t => absurd t.2 z, fun z => ⟨ii, ip, fun x21 e21 => ⟨fun y => skip fun _ t => ?_, fun y => ?_⟩⟩⟩
      · rw [e21] at y
        by_cases k0 : i = 0
        · rw [k0, L.2.2.1.2.1, L.2.2.1.2.2.2] at y
          exact absurd y (zI_ne (by omega))
        · obtain ⟨t', k', x1, x2, x3, x4, -⟩ := L.2.2.2.1 i (by omega) ic
          have := x3.1
          rw [x1, zI_eq (by omega) (by omega)] at y
          rw [y]; exact x4
      · rw [e21] at y
        have ts : Tp ho sl (en row i) sd := ⟨by omega, z⟩
        obtain ⟨q', hq', tq', -, -⟩ := F.other (by omega) ts s100
        obtain ⟨ct', L'⟩ := L.add F h0 hr rc ic s100 ts y hq' tq'
        refine ⟨fun t => ?_, fun _ => ?_⟩
        · rw [L98, zI_le (by omega) (by omega)] at t
          omega
        · unfold wp_Pieces_otherSide
          rw [xor1 sd (by omega) s100]
          dsimp only
          have pl := tq'.1
          have iq : vp_in (nI q') 98 := (in_nI (by omega)).mpr (by omega)
          rw [ix_nI (k := ptb 100 sd) (by omega), tq'.2, ix_nI (k := q') (by omega), zI_succ]
          refine ⟨(in_nI (by omega)).mpr (by omega), ii, iq, fun ab eab => ⟨iq, fun su esu => ⟨(in_nI (by omega)).mpr (by omega), fun ro ero => nx2 (by omega) _ _ _ _ ⟨c + 1, rfl, by omega, by omega, ?_⟩⟩⟩⟩
          rw [ero, eab, esu, ← a1, ix_nI (k := c) (by omega)]
          exact L'
end
