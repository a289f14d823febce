/-! PURE PART II: a reduced tree of pieces. S: the slots; h: the piece of a slot; M: the edges beyond a slot; pt: a joint's other side; kd: a piece's kind -/
def Dec (E : Nat → Prop) (I : Nat → Nat → Prop) (S : Nat → Prop) (h : Nat → Int) (M : Nat → Nat → Prop) (pt : Nat → Nat) (kd : Int → Int) : Prop :=
  (∀ s, S s → s < 400) ∧
  (∀ s t, S s → S t → h s = h t → s ≠ t → ∀ e, E e → M s e → ¬ M t e) ∧
  (∀ s, S s → ∀ e, E e → ∃ t, S t ∧ h t = h s ∧ M t e) ∧
  (∀ s, S s → ∃ e, E e ∧ M s e) ∧
  (∀ s, S s → fn E I (M s) = 2) ∧
  (∀ s, S s → ∃ t r, S t ∧ S r ∧ h t = h s ∧ h r = h s ∧ t ≠ s ∧ r ≠ s ∧ t ≠ r) ∧
  (∀ s, S s → (∃ e, E e ∧ ∀ e', E e' → (M s e' ↔ e' = e)) ∨ (S (pt s) ∧ h (pt s) ≠ h s ∧ (∀ e, E e → (M (pt s) e ↔ ¬ M s e)) ∧ ¬ (kd (h s) = kd (h (pt s)) ∧ kd (h s) ≠ 2))) ∧
  (∀ s t, S s → S t → h s ≠ h t → ∃ y x, S y ∧ S x ∧ h y = h s ∧ h x = h t ∧ ∀ e, E e → M y e ∨ M x e) ∧
  (∀ s, S s → (kd (h s) = 0 ∧ ∀ t, S t → h t = h s → ∀ x, bdy E I (M s) x ↔ bdy E I (M t) x) ∨
    (kd (h s) = 1 ∧ ∀ x t r q, S t → S r → S q → h t = h s → h r = h s → h q = h s → t ≠ r → t ≠ q → r ≠ q → bdy E I (M t) x → bdy E I (M r) x → ¬ bdy E I (M q) x) ∨
    (kd (h s) = 2 ∧ (∀ Q : Nat → Prop, fn E I (fun e => ∃ t, S t ∧ h t = h s ∧ Q t ∧ M t e) ≤ 2 → ∀ t r q w, S t → S r → S q → S w → h t = h s → h r = h s → h q = h s → h w = h s → t ≠ r → q ≠ w → Q t → Q r → ¬ Q q → ¬ Q w → False) ∧
      ∃ t r q, S t ∧ S r ∧ S q ∧ h t = h s ∧ h r = h s ∧ h q = h s ∧ t ≠ s ∧ r ≠ s ∧ q ≠ s ∧ t ≠ r ∧ t ≠ q ∧ r ≠ q)) ∧
  (∀ e, E e → ∃ s, S s ∧ ∀ e', E e' → (M s e' ↔ e' = e))
/-- the graph: edges below 100, two different ends below 40 each -/
def Gr (E : Nat → Prop) (I : Nat → Nat → Prop) : Prop := (∀ e, E e → e < 100) ∧ ∀ e, E e → ∃ p q, p < 40 ∧ q < 40 ∧ p ≠ q ∧ ∀ x, I e x ↔ x = p ∨ x = q
theorem Gr.lt {E : Nat → Prop} {I : Nat → Nat → Prop} (g : Gr E I) {e x : Nat} (he : E e) (hx : I e x) : x < 40 := by
  obtain ⟨p, q, hp, hq, -, h⟩ := g.2 e he
  rcases (h x).mp hx with rfl | rfl <;> assumption
theorem bdy_lt {E : Nat → Prop} {I : Nat → Nat → Prop} (g : Gr E I) {X : Nat → Prop} {x : Nat} (h : bdy E I X x) : x < 40 := by
  obtain ⟨⟨e, he, -, hi⟩, -⟩ := h
  exact g.lt he hi
variable {E : Nat → Prop} {I : Nat → Nat → Prop} {S : Nat → Prop} {h : Nat → Int} {M : Nat → Nat → Prop} {pt : Nat → Nat} {kd : Int → Int}
theorem joint_big (D : Dec E I S h M pt kd) {s : Nat} (hs : S s) (hp : S (pt s)) (hm : ∀ e, E e → (M (pt s) e ↔ ¬ M s e)) : big E (M s) := by
  obtain ⟨-, d1, -, d3, -, d5, -⟩ := D
  obtain ⟨t, r, ht, hr, et, er, nt, nr, ntr⟩ := d5 _ hp
  obtain ⟨e1, h1, m1⟩ := d3 t ht
  obtain ⟨e2, h2, m2⟩ := d3 r hr
  refine ⟨e1, e2, h1, h2, ?_, ?_, ?_⟩
  · exact Classical.byContradiction fun q => d1 t (pt s) ht hp et nt e1 h1 m1 ((hm e1 h1).mpr q)
  · exact Classical.byContradiction fun q => d1 r (pt s) hr hp er nr e2 h2 m2 ((hm e2 h2).mpr q)
  · intro q; subst q; exact d1 t r ht hr (et.trans er.symm) ntr e1 h1 m1 m2
theorem not_big (D : Dec E I S h M pt kd) {s : Nat} (hs : S s) : big E (fun e => ¬ M s e) := by
  obtain ⟨-, d1, -, d3, -, d5, -⟩ := D
  obtain ⟨t, r, ht, hr, et, er, nt, nr, ntr⟩ := d5 _ hs
  obtain ⟨e1, h1, m1⟩ := d3 t ht
  obtain ⟨e2, h2, m2⟩ := d3 r hr
  exact ⟨e1, e2, h1, h2, d1 t s ht hs et nt e1 h1 m1, d1 r s hr hs er nr e2 h2 m2, fun q => d1 t r ht hr (et.trans er.symm) ntr e1 h1 m1 (q ▸ m2)⟩
/-- a cut that crosses a slot can be made to cross it and no other slot of the node -/
theorem uncut (h2 : Two E I) (D : Dec E I S h M pt kd) {j : Nat} (hj : S j) {C : Nat → Prop} (hC : fn E I C = 2) (hc : crs E (M j) C) (n : Nat) :
    ∃ C' : Nat → Prop, fn E I C' = 2 ∧ crs E (M j) C' ∧ (∀ e, E e → M j e → (C' e ↔ C e)) ∧ ∀ t, t < n → S t → h t = h j → t ≠ j → (∀ e, E e → M t e → C' e) ∨ (∀ e, E e → M t e → ¬ C' e) := by
  obtain ⟨d0, d1, d2, d3, d4, d5, d6, d7, d8, d9⟩ := D
  induction n with
  | zero => exact ⟨C, hC, hc, fun _ _ _ => Iff.rfl, fun t ht => by omega⟩
  | succ n ih =>
    obtain ⟨C', hC', hc', hag, hun⟩ := ih
    by_cases hn : S n ∧ h n = h j ∧ n ≠ j
    · obtain ⟨hS, hh, hnj⟩ := hn
      by_cases hcut : (∀ e, E e → M n e → C' e) ∨ (∀ e, E e → M n e → ¬ C' e)
      · exact ⟨C', hC', hc', hag, fun t ht hSt hht htj => by
          by_cases q : t = n
          · subst q; exact hcut
          · exact hun t (by omega) hSt hht htj⟩
      · have ⟨e2, he2, m2, c2⟩ : ∃ e, E e ∧ M n e ∧ ¬ C' e := Classical.byContradiction fun q => hcut (Or.inl fun e he hm => Classical.byContradiction fun r => q ⟨e, he, hm, r⟩)
        have ⟨e1, he1, m1, c1⟩ : ∃ e, E e ∧ M n e ∧ C' e := Classical.byContradiction fun q => hcut (Or.inr fun e he hm r => q ⟨e, he, hm, r⟩)
        obtain ⟨⟨p, hp, p1, p2⟩, ⟨q, hq, q1, q2⟩, -, -⟩ := id hc'
        have dis : ∀ e, E e → M j e → ¬ M n e := fun e he => d1 j n hj hS hh.symm (fun k => hnj k.symm) e he
        have crn : crs E (M n) C' := ⟨⟨e1, he1, m1, c1⟩, ⟨e2, he2, m2, c2⟩, ⟨p, hp, dis p hp p1, p2⟩, ⟨q, hq, dis q hq q1, q2⟩⟩
        obtain ⟨-, -, f3, f4⟩ := quad h2 (d4 n hS) hC' crn
        -- a third slot of the node
        have ⟨r, hr, er, rj, rn⟩ : ∃ r, S r ∧ h r = h j ∧ r ≠ j ∧ r ≠ n := by
          obtain ⟨t, r, ht, hr, et, er, nt, nr, ntr⟩ := d5 j hj
          by_cases k : t = n
          · exact ⟨r, hr, er, nr, fun z => ntr (k.trans z.symm)⟩
          · exact ⟨t, ht, et, nt, k⟩
        obtain ⟨e3, he3, m3⟩ := d3 r hr
        have n3j : ¬ M j e3 := d1 r j hr hj er rj e3 he3 m3
        have n3n : ¬ M n e3 := d1 r n hr hS (er.trans hh.symm) rn e3 he3 m3
        by_cases c3 : C' e3
        · refine ⟨fun e => ¬ M n e ∧ C' e, f3, ⟨⟨p, hp, p1, dis p hp p1, p2⟩, ⟨q, hq, q1, fun k => q2 k.2⟩, ⟨e3, he3, n3j, n3n, c3⟩, ⟨e2, he2, fun k => dis e2 he2 k m2, fun k => c2 k.2⟩⟩, fun e he hm => ⟨fun k => (hag e he hm).mp k.2, fun k => ⟨dis e he hm, (hag e he hm).mpr k⟩⟩, fun t ht hSt hht htj => ?_⟩
          by_cases k : t = n
          · subst k; exact Or.inr fun e _ hm z => z.1 hm
          · rcases hun t (by omega) hSt hht htj with z | z
            · exact Or.inl fun e he hm => ⟨d1 t n hSt hS (hht.trans hh.symm) k e he hm, z e he hm⟩
            · exact Or.inr fun e he hm w => z e he hm w.2
        · refine ⟨fun e => ¬ (¬ M n e ∧ ¬ C' e), by rw [fn_not]; exact f4, ⟨⟨p, hp, p1, fun k => k.2 p2⟩, ⟨q, hq, q1, fun k => k ⟨dis q hq q1, q2⟩⟩, ⟨e1, he1, fun k => dis e1 he1 k m1, fun k => k.1 m1⟩, ⟨e3, he3, n3j, fun k => k ⟨n3n, c3⟩⟩⟩, fun e he hm => ⟨fun k => (hag e he hm).mp (Classical.byContradiction fun z => k ⟨dis e he hm, z⟩), fun k z => z.2 ((hag e he hm).mpr k)⟩, fun t ht hSt hht htj => ?_⟩
          by_cases k : t = n
          · subst k; exact Or.inl fun e _ hm z => z.1 hm
          · rcases hun t (by omega) hSt hht htj with z | z
            · exact Or.inl fun e he hm w => w.2 (z e he hm)
            · exact Or.inr fun e he hm w => w ⟨d1 t n hSt hS (hht.trans hh.symm) k e he hm, z e he hm⟩
    · exact ⟨C', hC', hc', hag, fun t ht hSt hht htj => by
        by_cases q : t = n
        · subst q; exact absurd ⟨hSt, hht, htj⟩ hn
        · exact hun t (by omega) hSt hht htj⟩
/-- then the node is no rigid one -/
theorem uncut_rigid (h2 : Two E I) (D : Dec E I S h M pt kd) {j : Nat} (hj : S j) {C : Nat → Prop} (hC : fn E I C = 2) (hc : crs E (M j) C)
    (hun : ∀ t, S t → h t = h j → t ≠ j → (∀ e, E e → M t e → C e) ∨ (∀ e, E e → M t e → ¬ C e)) : kd (h j) ≠ 2 := by
  intro hk
  obtain ⟨-, -, f3, f4⟩ := quad h2 (by obtain ⟨-, -, -, -, d4, -⟩ := D; exact d4 j hj) hC hc
  obtain ⟨d0, d1, d2, d3, d4, d5, d6, d7, d8, d9⟩ := D
  rcases d8 j hj with ⟨k, -⟩ | ⟨k, -⟩ | ⟨-, hr, t, r, q, ht, hr', hq, et, er, eq, tj, rj, qj, tr, tq, rq⟩
  · omega
  · omega
  obtain ⟨-, -, ⟨p, hp, p1, p2⟩, ⟨w, hw, w1, w2⟩⟩ := hc
  obtain ⟨tp, htp, etp, mtp⟩ := d2 j hj p hp
  obtain ⟨tw, htw, etw, mtw⟩ := d2 j hj w hw
  have tpj : tp ≠ j := fun k => p1 (k ▸ mtp)
  have twj : tw ≠ j := fun k => w1 (k ▸ mtw)
  have htpC : ∀ e, E e → M tp e → C e := (hun tp htp etp tpj).elim id (fun k => absurd p2 (k p hp mtp))
  have htwC : ∀ e, E e → M tw e → ¬ C e := (hun tw htw etw twj).elim (fun k => absurd (k w hw mtw) w2) id
  have ne : ∀ x, S x → ∃ e, E e ∧ M x e := d3
  -- the slots within C
  have fin : ∀ x y, S x → S y → h x = h j → h y = h j → x ≠ j → y ≠ j → x ≠ y → (∀ e, E e → M x e → C e) → (∀ e, E e → M y e → C e) → False := fun x y hx hy ex ey xj yj xy cx cy => by
    refine hr (fun t => t ≠ j ∧ ∀ e, E e → M t e → C e) ?_ x y j tw hx hy hj htw ex ey rfl etw xy (fun k => twj k.symm) ⟨xj, cx⟩ ⟨yj, cy⟩ (fun k => k.1 rfl) (fun k => w2 (k.2 w hw mtw))
    rw [fn_congr (Y := fun e => ¬ M j e ∧ C e) (fun e he => ?_)]
    · omega
    · constructor
      · rintro ⟨t, ht, et, ⟨tj, tc⟩, tm⟩
        exact ⟨d1 t j ht hj et tj e he tm, tc e he tm⟩
      · rintro ⟨k1, k2⟩
        obtain ⟨t, ht, et, tm⟩ := d2 j hj e he
        have tj : t ≠ j := fun k => k1 (k ▸ tm)
        exact ⟨t, ht, et, ⟨tj, (hun t ht et tj).elim id (fun k => absurd k2 (k e he tm))⟩, tm⟩
  have fout : ∀ x y, S x → S y → h x = h j → h y = h j → x ≠ j → y ≠ j → x ≠ y → (∀ e, E e → M x e → ¬ C e) → (∀ e, E e → M y e → ¬ C e) → False := fun x y hx hy ex ey xj yj xy cx cy => by
    refine hr (fun t => t ≠ j ∧ ∀ e, E e → M t e → ¬ C e) ?_ x y j tp hx hy hj htp ex ey rfl etp xy (fun k => tpj k.symm) ⟨xj, cx⟩ ⟨yj, cy⟩ (fun k => k.1 rfl) (fun k => k.2 p hp mtp p2)
    rw [fn_congr (Y := fun e => ¬ M j e ∧ ¬ C e) (fun e he => ?_)]
    · omega
    · constructor
      · rintro ⟨t, ht, et, ⟨tj, tc⟩, tm⟩
        exact ⟨d1 t j ht hj et tj e he tm, tc e he tm⟩
      · rintro ⟨k1, k2⟩
        obtain ⟨t, ht, et, tm⟩ := d2 j hj e he
        have tj : t ≠ j := fun k => k1 (k ▸ tm)
        exact ⟨t, ht, et, ⟨tj, (hun t ht et tj).elim (fun k => absurd (k e he tm) k2) id⟩, tm⟩
  rcases hun t ht et tj with ct | ct <;> rcases hun r hr' er rj with cr | cr <;> rcases hun q hq eq qj with cq | cq
  · exact fin t r ht hr' et er tj rj tr ct cr
  · exact fin t r ht hr' et er tj rj tr ct cr
  · exact fin t q ht hq et eq tj qj tq ct cq
  · exact fout r q hr' hq er eq rj qj rq cr cq
  · exact fin r q hr' hq er eq rj qj rq cr cq
  · exact fout t q ht hq et eq tj qj tq ct cq
  · exact fout t r ht hr' et er tj rj tr ct cr
  · exact fout t r ht hr' et er tj rj tr ct cr
/-- a bond and a ring cannot both be cut -/
theorem bond_ring (g : Gr E I) (h2 : Two E I) (D : Dec E I S h M pt kd) {j i : Nat} (hj : S j) (hi : S i) (hm : ∀ e, E e → (M i e ↔ ¬ M j e)) {C : Nat → Prop} (hC : fn E I C = 2) (hc : crs E (M j) C)
    (hun : ∀ t, S t → h t = h j → t ≠ j → (∀ e, E e → M t e → C e) ∨ (∀ e, E e → M t e → ¬ C e)) (hui : ∀ t, S t → h t = h i → t ≠ i → (∀ e, E e → M t e → C e) ∨ (∀ e, E e → M t e → ¬ C e)) (k0 : kd (h j) = 0) (k1 : kd (h i) = 1) : False := by
  obtain ⟨d0, d1, d2, d3, d4, d5, d6, d7, d8, d9⟩ := D
  obtain ⟨f1, f2, -, -⟩ := quad h2 (d4 j hj) hC hc
  obtain ⟨⟨p, hp, p1, p2⟩, ⟨q, hq, q1, q2⟩, ⟨r, hr, r1, r2⟩, ⟨w, hw, w1, w2⟩⟩ := hc
  -- the bond: the two points lie in C and out of it
  have hb : ∀ x, bdy E I (M j) x → bdy E I C x := fun x hx => by
    rcases d8 j hj with ⟨-, hs⟩ | ⟨k, -⟩ | ⟨k, -⟩
    · obtain ⟨t, ht, et, mt⟩ := d2 j hj r hr
      obtain ⟨t', ht', et', mt'⟩ := d2 j hj w hw
      have ct := (hun t ht et (fun k => r1 (k ▸ mt))).elim id (fun k => absurd r2 (k r hr mt))
      have ct' := (hun t' ht' et' (fun k => w1 (k ▸ mt'))).elim (fun k => absurd (k w hw mt') w2) id
      obtain ⟨⟨e, he, hm1, hi1⟩, -⟩ := (hs t ht et x).mp hx
      obtain ⟨⟨e', he', hm2, hi2⟩, -⟩ := (hs t' ht' et' x).mp hx
      exact ⟨⟨e, he, ct e he hm1, hi1⟩, ⟨e', he', ct' e' he' hm2, hi2⟩⟩
    · omega
    · omega
  have hall : ∀ x, x < 40 → bdy E I C x → bdy E I (M j) x := cnt_eq (n := 40) (fun x _ hx => hb x hx) (by have := d4 j hj; unfold fn at this hC; omega)
  -- the ring
  have hZ : ∀ x, x < 40 → bdy E I (fun e => M j e ∧ C e) x → bdy E I (M j) x := fun x hx ⟨⟨e, he, hm1, hi1⟩, ⟨e', he', hm2, hi2⟩⟩ => by
    by_cases k : M j e'
    · exact hall x hx ⟨⟨e, he, hm1.2, hi1⟩, ⟨e', he', fun z => hm2 ⟨k, z⟩, hi2⟩⟩
    · exact ⟨⟨e, he, hm1.1, hi1⟩, ⟨e', he', k, hi2⟩⟩
  have hZ' : ∀ x, x < 40 → bdy E I (fun e => M j e ∧ ¬ C e) x → bdy E I (M j) x := fun x hx ⟨⟨e, he, hm1, hi1⟩, ⟨e', he', hm2, hi2⟩⟩ => by
    by_cases k : M j e'
    · exact hall x hx ⟨⟨e', he', Classical.byContradiction fun z => hm2 ⟨k, z⟩, hi2⟩, ⟨e, he, hm1.2, hi1⟩⟩
    · exact ⟨⟨e, he, hm1.1, hi1⟩, ⟨e', he', k, hi2⟩⟩
  have gZ := cnt_eq (n := 40) hZ (by have := d4 j hj; unfold fn at this f1; omega)
  have gZ' := cnt_eq (n := 40) hZ' (by have := d4 j hj; unfold fn at this f2; omega)
  obtain ⟨x, hx, hbx⟩ := cnt_some (n := 40) (P := bdy E I (M j)) (by have := d4 j hj; unfold fn at this; omega)
  obtain ⟨⟨e, he, hm1, hi1⟩, -⟩ := gZ x hx hbx
  obtain ⟨⟨e', he', hm2, hi2⟩, -⟩ := gZ' x hx hbx
  obtain ⟨t, ht, et, mt⟩ := d2 i hi e he
  obtain ⟨t', ht', et', mt'⟩ := d2 i hi e' he'
  have ti : t ≠ i := fun k => by rw [k] at mt; exact (hm e he).mp mt hm1.1
  have ti' : t' ≠ i := fun k => by rw [k] at mt'; exact (hm e' he').mp mt' hm2.1
  have ct := (hui t ht et ti).elim id (fun k => absurd hm1.2 (k e he mt))
  have ct' := (hui t' ht' et' ti').elim (fun k => absurd (k e' he' mt') hm2.2) id
  have tt : t ≠ t' := fun k => hm2.2 (ct e' he' (k ▸ mt'))
  rcases d8 i hi with ⟨k, -⟩ | ⟨-, hs⟩ | ⟨k, -⟩
  · omega
  · refine hs x t t' i ht ht' hi et et' rfl tt ti ti' ⟨⟨e, he, mt, hi1⟩, ⟨e', he', fun z => hm2.2 (ct e' he' z), hi2⟩⟩ ⟨⟨e', he', mt', hi2⟩, ⟨e, he, fun z => (ct' e he z) hm1.2, hi1⟩⟩ ?_
    exact (bdy_congr hm x).mpr ((bdy_not x).mpr hbx)
  · omega
/-- THEOREM A: no cut with two common points crosses a joint -/
theorem uncrossed (g : Gr E I) (h2 : Two E I) (D : Dec E I S h M pt kd) {s : Nat} (hs : S s) {C : Nat → Prop} (hC : fn E I C ≤ 2) (hc : crs E (M s) C) : False := by
  have hC2 : fn E I C = 2 := by
    obtain ⟨⟨p, hp, -, p2⟩, ⟨q, hq, -, q2⟩, -⟩ := hc
    have := h2 C ⟨p, hp, p2⟩ ⟨q, hq, q2⟩
    omega
  obtain ⟨d0, d1, d2, d3, d4, d5, d6, d7, d8, d9⟩ := id D
  rcases d6 s hs with ⟨e, he, hm⟩ | ⟨hp, hne, hm, hk⟩
  · obtain ⟨⟨p, hp, p1, p2⟩, ⟨q, hq, q1, q2⟩, -⟩ := hc
    have := (hm p hp).mp p1
    have := (hm q hq).mp q1
    subst p; subst q; exact q2 p2
  · obtain ⟨C1, c1, x1, ag1, un1⟩ := uncut h2 D hs hC2 hc 400
    have x1' : crs E (M (pt s)) C1 := by
      obtain ⟨⟨p, hp, p1, p2⟩, ⟨q, hq, q1, q2⟩, ⟨r, hr, r1, r2⟩, ⟨w, hw, w1, w2⟩⟩ := x1
      exact ⟨⟨r, hr, (hm r hr).mpr r1, r2⟩, ⟨w, hw, (hm w hw).mpr w1, w2⟩, ⟨p, hp, fun k => (hm p hp).mp k p1, p2⟩, ⟨q, hq, fun k => (hm q hq).mp k q1, q2⟩⟩
    obtain ⟨C2, c2, x2', ag2, un2⟩ := uncut h2 D hp c1 x1' 400
    have x2 : crs E (M s) C2 := by
      obtain ⟨⟨p, hp, p1, p2⟩, ⟨q, hq, q1, q2⟩, ⟨r, hr, r1, r2⟩, ⟨w, hw, w1, w2⟩⟩ := x2'
      exact ⟨⟨r, hr, Classical.byContradiction fun k => r1 ((hm r hr).mpr k), r2⟩, ⟨w, hw, Classical.byContradiction fun k => w1 ((hm w hw).mpr k), w2⟩, ⟨p, hp, (hm p hp).mp p1, p2⟩, ⟨q, hq, (hm q hq).mp q1, q2⟩⟩
    have u2 : ∀ t, S t → h t = h (pt s) → t ≠ pt s → (∀ e, E e → M t e → C2 e) ∨ (∀ e, E e → M t e → ¬ C2 e) := fun t ht et nt => un2 t (d0 t ht) ht et nt
    have u1 : ∀ t, S t → h t = h s → t ≠ s → (∀ e, E e → M t e → C2 e) ∨ (∀ e, E e → M t e → ¬ C2 e) := fun t ht et nt => by
      have sub : ∀ e, E e → M t e → M (pt s) e := fun e he hmt => (hm e he).mpr (d1 t s ht hs et nt e he hmt)
      rcases un1 t (d0 t ht) ht et nt with k | k
      · exact Or.inl fun e he hmt => (ag2 e he (sub e he hmt)).mpr (k e he hmt)
      · exact Or.inr fun e he hmt z => k e he hmt ((ag2 e he (sub e he hmt)).mp z)
    have r1 := uncut_rigid h2 D hs c2 x2 u1
    have r2 := uncut_rigid h2 D hp c2 x2' u2
    have hm' : ∀ e, E e → (M s e ↔ ¬ M (pt s) e) := fun e he => ⟨fun z k => (hm e he).mp k z, fun k => Classical.byContradiction fun z => k ((hm e he).mpr z)⟩
    rcases d8 s hs with ⟨k, -⟩ | ⟨k, -⟩ | ⟨k, -⟩
    · rcases d8 _ hp with ⟨k', -⟩ | ⟨k', -⟩ | ⟨k', -⟩
      · exact hk ⟨k.trans k'.symm, r1⟩
      · exact bond_ring g h2 D hs hp hm c2 x2 u1 u2 k k'
      · exact r2 k'
    · rcases d8 _ hp with ⟨k', -⟩ | ⟨k', -⟩ | ⟨k', -⟩
      · exact bond_ring g h2 D hp hs hm' c2 x2' u2 u1 k' k
      · exact hk ⟨k.trans k'.symm, r1⟩
      · exact r2 k'
    · exact r1 k
