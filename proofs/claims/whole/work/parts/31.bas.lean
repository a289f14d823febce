/-! PURE PART V: how a tree of pieces is split and put together. U, V: a slot's ends; below b the slots are edges, w their numbers -/
def Bas (E : Nat → Prop) (I : Nat → Nat → Prop) (S : Nat → Prop) (h : Nat → Int) (U V : Nat → Nat) (M : Nat → Nat → Prop) (pt : Nat → Nat) (b : Nat) (w : Nat → Nat) : Prop :=
  (∀ s, S s → s < 400) ∧
  (∀ s t, S s → S t → h s = h t → s ≠ t → ∀ e, E e → M s e → ¬ M t e) ∧
  (∀ s, S s → ∀ e, E e → ∃ t, S t ∧ h t = h s ∧ M t e) ∧
  (∀ s, S s → ∃ e, E e ∧ M s e) ∧
  (∀ s, S s → U s < 40 ∧ V s < 40 ∧ U s ≠ V s ∧ ∀ x, bdy E I (M s) x ↔ x = U s ∨ x = V s) ∧
  (∀ s, S s → ∃ t r, S t ∧ S r ∧ h t = h s ∧ h r = h s ∧ t ≠ s ∧ r ≠ s ∧ t ≠ r) ∧
  (∀ s, S s → b ≤ s → S (pt s) ∧ h (pt s) ≠ h s ∧ (∀ e, E e → (M (pt s) e ↔ ¬ M s e))) ∧
  (∀ s t, S s → S t → h s ≠ h t → ∃ y x, S y ∧ S x ∧ h y = h s ∧ h x = h t ∧ ∀ e, E e → M y e ∨ M x e) ∧
  (∀ s, S s → s < b → E (w s) ∧ ∀ e, E e → (M s e ↔ e = w s)) ∧
  (∀ e, E e → ∃ s, s < b ∧ S s ∧ w s = e)
section
variable {E : Nat → Prop} {I : Nat → Nat → Prop} {S S' : Nat → Prop} {h h' : Nat → Int} {U V U' V' : Nat → Nat} {M : Nat → Nat → Prop} {pt : Nat → Nat} {b : Nat} {w : Nat → Nat}
theorem bas_fn {X : Nat → Prop} {u v : Nat} (hu : u < 40) (hv : v < 40) (huv : u ≠ v) (hx : ∀ x, bdy E I X x ↔ x = u ∨ x = v) : fn E I X = 2 := by
  have a : cnt 40 (bdy E I X) ≤ 2 := cnt_le2 (u := u) (v := v) (fun x _ k => (hx x).mp k)
  have c : 2 ≤ cnt 40 (bdy E I X) := cnt_ge2 hu hv huv ((hx u).mpr (Or.inl rfl)) ((hx v).mpr (Or.inr rfl))
  unfold fn; omega
/-- what has its common points among u and v has both -/
theorem bdy_both (g : Gr E I) (h2 : Two E I) {X : Nat → Prop} {u v : Nat} (h1 : ∃ e, E e ∧ X e) (h0 : ∃ e, E e ∧ ¬ X e) (hx : ∀ x, bdy E I X x → x = u ∨ x = v) : ∀ x, bdy E I X x ↔ x = u ∨ x = v := by
  have a := h2 X h1 h0
  have c : cnt 40 (bdy E I X) ≤ 2 := cnt_le2 (u := u) (v := v) (fun x _ k => hx x k)
  obtain ⟨y, z, yz, hz, by_, bz, all⟩ := cnt_two (n := 40) (P := bdy E I X) (by unfold fn at a; omega)
  intro x
  refine ⟨hx x, fun k => ?_⟩
  have := hx y by_
  have := hx z bz
  have : x = y ∨ x = z := by omega
  rcases this with rfl | rfl <;> assumption
theorem bas_split (g : Gr E I) (h2 : Two E I) (B : Bas E I S h U V M pt b w) {p p' : Int} {Q : Nat → Prop} {j j' u v : Nat} (hu : u < 40) (hv : v < 40) (huv : u ≠ v) (nj : ¬ S j) (nj' : ¬ S j') (hjj : j ≠ j') (bj : b ≤ j) (bj' : b ≤ j') (lj : j < 400) (lj' : j' < 400) (pj : pt j = j') (pj' : pt j' = j)
    (hp' : ∀ s, S s → h s ≠ p') (hpp : p ≠ p') (q2 : ∃ s t, S s ∧ S t ∧ h s = p ∧ h t = p ∧ Q s ∧ Q t ∧ s ≠ t) (r2 : ∃ s t, S s ∧ S t ∧ h s = p ∧ h t = p ∧ ¬ Q s ∧ ¬ Q t ∧ s ≠ t)
    (com : ∀ s t x, S s → S t → h s = p → h t = p → Q s → ¬ Q t → (x = U s ∨ x = V s) → (x = U t ∨ x = V t) → x = u ∨ x = v)
    (eS : ∀ s, S' s ↔ S s ∨ s = j ∨ s = j') (ej : h' j = p) (ej' : h' j' = p') (eq1 : ∀ s, S s → h s = p → Q s → h' s = p') (eq0 : ∀ s, S s → ¬ (h s = p ∧ Q s) → h' s = h s)
    (eU : ∀ s, S s → U' s = U s) (eV : ∀ s, S s → V' s = V s) (uj : U' j = u) (vj : V' j = v) (uj' : U' j' = u) (vj' : V' j' = v) :
    ∃ M' : Nat → Nat → Prop, Bas E I S' h' U' V' M' pt b w ∧ (∀ s, S s → M' s = M s) ∧ (∀ e, M' j e ↔ ∃ s, S s ∧ h s = p ∧ Q s ∧ M s e) ∧ (∀ e, E e → (M' j' e ↔ ¬ M' j e)) := by
  obtain ⟨b0, b1, b2, b3, b4, b5, b6, b7, b8, b9⟩ := B
  obtain ⟨qa, qb, sa, sb, ha, hb, ya, yb, ab⟩ := q2
  obtain ⟨ra, rb, ta, tb, ka, kb, na, nb, rab⟩ := r2
  have sj : ∀ s, S s → s ≠ j := fun s hs k => nj (k ▸ hs)
  have sj' : ∀ s, S s → s ≠ j' := fun s hs k => nj' (k ▸ hs)
  -- the two new masks
  have part : ∀ e, E e → ((∃ s, S s ∧ h s = p ∧ ¬ Q s ∧ M s e) ↔ ¬ ∃ s, S s ∧ h s = p ∧ Q s ∧ M s e) := fun e he => by
    constructor
    · rintro ⟨s, hs, es, ns, ms⟩ ⟨t, ht, et, qt, mt⟩
      exact b1 s t hs ht (es.trans et.symm) (fun k => ns (k ▸ qt)) e he ms mt
    · intro k
      obtain ⟨t, ht, et, mt⟩ := b2 qa sa e he
      exact ⟨t, ht, et.trans ha, fun z => k ⟨t, ht, et.trans ha, z, mt⟩, mt⟩
  have cov : ∀ x, bdy E I (fun e => ∃ s, S s ∧ h s = p ∧ Q s ∧ M s e) x → x = u ∨ x = v := fun x ⟨⟨e, he, ⟨s, hs, es, qs, ms⟩, hi⟩, ⟨e', he', ne', hi'⟩⟩ => by
    obtain ⟨t, ht, et, nt, mt⟩ := (part e' he').mpr ne'
    have st : s ≠ t := fun k => nt (k ▸ qs)
    refine com s t x hs ht es et qs nt (((b4 s hs).2.2.2 x).mp ⟨⟨e, he, ms, hi⟩, ⟨e', he', b1 t s ht hs (et.trans es.symm) (fun k => st k.symm) e' he' mt, hi'⟩⟩) (((b4 t ht).2.2.2 x).mp ⟨⟨e', he', mt, hi'⟩, ⟨e, he, b1 s t hs ht (es.trans et.symm) st e he ms, hi⟩⟩)
  have ne1 : ∃ e, E e ∧ ∃ s, S s ∧ h s = p ∧ Q s ∧ M s e := by
    obtain ⟨e, he, me⟩ := b3 qa sa
    exact ⟨e, he, qa, sa, ha, ya, me⟩
  have ne0 : ∃ e, E e ∧ ∃ s, S s ∧ h s = p ∧ ¬ Q s ∧ M s e := by
    obtain ⟨e, he, me⟩ := b3 ra ta
    exact ⟨e, he, ra, ta, ka, na, me⟩
  have bd := bdy_both g h2 ne1 (by obtain ⟨e, he, k⟩ := ne0; exact ⟨e, he, (part e he).mp k⟩) cov
  have bd' : ∀ x, bdy E I (fun e => ¬ ∃ s, S s ∧ h s = p ∧ Q s ∧ M s e) x ↔ x = u ∨ x = v := fun x => (bdy_not x).trans (bd x)
  -- the new picture
  refine ⟨fun s => if s = j then (fun e => ∃ s, S s ∧ h s = p ∧ Q s ∧ M s e) else if s = j' then (fun e => ¬ ∃ s, S s ∧ h s = p ∧ Q s ∧ M s e) else M s, ?_, fun s hs => by simp only [if_neg (sj s hs), if_neg (sj' s hs)], fun e => by simp only [if_pos], fun e _ => by simp only [if_neg (fun k : j' = j => hjj k.symm), if_pos]⟩
  have mO0 : ∀ s, S s → (if s = j then (fun e => ∃ s, S s ∧ h s = p ∧ Q s ∧ M s e) else if s = j' then (fun e => ¬ ∃ s, S s ∧ h s = p ∧ Q s ∧ M s e) else M s) = M s := fun s hs => by rw [if_neg (sj s hs), if_neg (sj' s hs)]
  have mJ0 : (if j = j then (fun e => ∃ s, S s ∧ h s = p ∧ Q s ∧ M s e) else if j = j' then (fun e => ¬ ∃ s, S s ∧ h s = p ∧ Q s ∧ M s e) else M j) = (fun e => ∃ s, S s ∧ h s = p ∧ Q s ∧ M s e) := if_pos rfl
  have mJ0' : (if j' = j then (fun e => ∃ s, S s ∧ h s = p ∧ Q s ∧ M s e) else if j' = j' then (fun e => ¬ ∃ s, S s ∧ h s = p ∧ Q s ∧ M s e) else M j') = (fun e => ¬ ∃ s, S s ∧ h s = p ∧ Q s ∧ M s e) := by rw [if_neg (fun k => hjj k.symm), if_pos rfl]
  generalize hM : (fun s => if s = j then (fun e => ∃ s, S s ∧ h s = p ∧ Q s ∧ M s e) else if s = j' then (fun e => ¬ ∃ s, S s ∧ h s = p ∧ Q s ∧ M s e) else M s) = M' 
  have mO : ∀ s, S s → M' s = M s := fun s hs => by rw [← hM]; exact mO0 s hs
  have mJ : M' j = (fun e => ∃ s, S s ∧ h s = p ∧ Q s ∧ M s e) := by rw [← hM]; exact mJ0
  have mJ' : M' j' = (fun e => ¬ ∃ s, S s ∧ h s = p ∧ Q s ∧ M s e) := by rw [← hM]; exact mJ0'
  clear hM mO0 mJ0 mJ0'
  -- where the old slots are now
  have old : ∀ s, S s → (h' s = p' ↔ h s = p ∧ Q s) := fun s hs => ⟨fun k => Classical.byContradiction fun z => hp' s hs ((eq0 s hs z).symm.trans k), fun k => eq1 s hs k.1 k.2⟩
  have oldp : ∀ s, S s → (h' s = p ↔ h s = p ∧ ¬ Q s) := fun s hs => by
    by_cases z : h s = p ∧ Q s
    · rw [eq1 s hs z.1 z.2]; exact ⟨fun k => absurd k.symm hpp, fun k => absurd z.2 k.2⟩
    · rw [eq0 s hs z]; exact ⟨fun k => ⟨k, fun q => z ⟨k, q⟩⟩, fun k => k.1⟩
  have same : ∀ s t, S s → S t → h' s = h' t → h s = h t := fun s t hs ht k => by
    by_cases z : h t = p ∧ Q t
    · rw [eq1 t ht z.1 z.2] at k
      exact ((old s hs).mp k).1.trans z.1.symm
    · rw [eq0 t ht z] at k
      by_cases y : h s = p ∧ Q s
      · rw [eq1 s hs y.1 y.2] at k; exact absurd k.symm (hp' t ht)
      · rw [eq0 s hs y] at k; exact k
  refine ⟨?_, ?_, ?_, ?_, ?_, ?_, ?_, ?_, ?_, ?_⟩
  · intro s hs
    rcases (eS s).mp hs with k | rfl | rfl
    · exact b0 s k
    · exact lj
    · exact lj'
  · -- disjoint
    intro s t hs ht hh nst e he
    rcases (eS s).mp hs with k | rfl | rfl <;> rcases (eS t).mp ht with k2 | rfl | rfl
    · rw [mO s k, mO t k2]; exact b1 s t k k2 (same s t k k2 hh) nst e he
    · rw [mO s k, mJ]
      rw [ej] at hh
      have z := (oldp s k).mp hh
      rintro m ⟨r, hr, er, qr, mr⟩
      exact b1 s r k hr (z.1.trans er.symm) (fun y => z.2 (y ▸ qr)) e he m mr
    · rw [mO s k, mJ']
      rw [ej'] at hh
      have z := (old s k).mp hh
      exact fun m y => y ⟨s, k, z.1, z.2, m⟩
    · rw [mO t k2, mJ]
      rw [ej] at hh
      have z := (oldp t k2).mp hh.symm
      rintro ⟨r, hr, er, qr, mr⟩ m
      exact b1 t r k2 hr (z.1.trans er.symm) (fun y => z.2 (y ▸ qr)) e he m mr
    · exact absurd rfl nst
    · rw [ej, ej'] at hh; exact absurd hh hpp
    · rw [mO t k2, mJ']
      rw [ej'] at hh
      have z := (old t k2).mp hh.symm
      exact fun y m => y ⟨t, k2, z.1, z.2, m⟩
    · rw [ej, ej'] at hh; exact absurd hh.symm hpp
    · exact absurd rfl nst
  · -- cover
    intro s hs e he
    have cp : ∀ k : Int, k = p → ∃ t, S' t ∧ h' t = k ∧ M' t e := fun k hk => by
      subst hk
      by_cases z : ∃ s, S s ∧ h s = k ∧ Q s ∧ M s e
      · exact ⟨j, (eS j).mpr (Or.inr (Or.inl rfl)), ej, by rw [mJ]; exact z⟩
      · obtain ⟨t, ht, et, nt, mt⟩ := (part e he).mpr z
        exact ⟨t, (eS t).mpr (Or.inl ht), (oldp t ht).mpr ⟨et, nt⟩, by rw [mO t ht]; exact mt⟩
    have cp' : ∀ k : Int, k = p' → ∃ t, S' t ∧ h' t = k ∧ M' t e := fun k hk => by
      subst hk
      by_cases z : ∃ s, S s ∧ h s = p ∧ Q s ∧ M s e
      · obtain ⟨t, ht, et, nt, mt⟩ := z
        exact ⟨t, (eS t).mpr (Or.inl ht), eq1 t ht et nt, by rw [mO t ht]; exact mt⟩
      · exact ⟨j', (eS j').mpr (Or.inr (Or.inr rfl)), ej', by rw [mJ']; exact z⟩
    rcases (eS s).mp hs with k | rfl | rfl
    · by_cases z : h s = p
      · by_cases y : Q s
        · exact cp' _ (eq1 s k z y)
        · exact cp _ ((oldp s k).mpr ⟨z, y⟩)
      · obtain ⟨t, ht, et, mt⟩ := b2 s k e he
        refine ⟨t, (eS t).mpr (Or.inl ht), ?_, by rw [mO t ht]; exact mt⟩
        rw [eq0 s k (fun y => z y.1), eq0 t ht (fun y => z (et.symm.trans y.1))]; exact et
    · exact cp _ ej
    · exact cp' _ ej'
  · intro s hs
    rcases (eS s).mp hs with k | rfl | rfl
    · rw [mO s k]; exact b3 s k
    · rw [mJ]; exact ne1
    · rw [mJ']; obtain ⟨e, he, k⟩ := ne0; exact ⟨e, he, (part e he).mp k⟩
  · intro s hs
    rcases (eS s).mp hs with k | rfl | rfl
    · rw [mO s k, eU s k, eV s k]; exact b4 s k
    · rw [mJ, uj, vj]; exact ⟨hu, hv, huv, bd⟩
    · rw [mJ', uj', vj']; exact ⟨hu, hv, huv, bd'⟩
  · -- three
    have tp : ∀ s, S' s → h' s = p → ∃ t r, S' t ∧ S' r ∧ h' t = p ∧ h' r = p ∧ t ≠ s ∧ r ≠ s ∧ t ≠ r := fun s _ _ => by
      have a1 := (eS ra).mpr (Or.inl ta)
      have a2 := (eS rb).mpr (Or.inl tb)
      have a3 := (eS j).mpr (Or.inr (Or.inl rfl))
      have c1 := (oldp ra ta).mpr ⟨ka, na⟩
      have c2 := (oldp rb tb).mpr ⟨kb, nb⟩
      by_cases z1 : ra = s
      · exact ⟨rb, j, a2, a3, c2, ej, fun y => rab (z1.trans y.symm), fun y => sj ra ta (z1.trans y.symm), sj rb tb⟩
      · by_cases z2 : rb = s
        · exact ⟨ra, j, a1, a3, c1, ej, z1, fun y => sj rb tb (z2.trans y.symm), sj ra ta⟩
        · exact ⟨ra, rb, a1, a2, c1, c2, z1, z2, rab⟩
    have tp' : ∀ s, S' s → h' s = p' → ∃ t r, S' t ∧ S' r ∧ h' t = p' ∧ h' r = p' ∧ t ≠ s ∧ r ≠ s ∧ t ≠ r := fun s _ _ => by
      have a1 := (eS qa).mpr (Or.inl sa)
      have a2 := (eS qb).mpr (Or.inl sb)
      have a3 := (eS j').mpr (Or.inr (Or.inr rfl))
      have c1 := eq1 qa sa ha ya
      have c2 := eq1 qb sb hb yb
      by_cases z1 : qa = s
      · exact ⟨qb, j', a2, a3, c2, ej', fun y => ab (z1.trans y.symm), fun y => sj' qa sa (z1.trans y.symm), sj' qb sb⟩
      · by_cases z2 : qb = s
        · exact ⟨qa, j', a1, a3, c1, ej', z1, fun y => sj' qb sb (z2.trans y.symm), sj' qa sa⟩
        · exact ⟨qa, qb, a1, a2, c1, c2, z1, z2, ab⟩
    intro s hs
    by_cases z1 : h' s = p
    · rw [z1]; exact tp s hs z1
    · by_cases z2 : h' s = p'
      · rw [z2]; exact tp' s hs z2
      · rcases (eS s).mp hs with k | rfl | rfl
        · have z3 : h s ≠ p := fun y => by
            by_cases q : Q s
            · exact z2 (eq1 s k y q)
            · exact z1 ((oldp s k).mpr ⟨y, q⟩)
          obtain ⟨t, r, ht, hr, et, er, nt, nr, ntr⟩ := b5 s k
          refine ⟨t, r, (eS t).mpr (Or.inl ht), (eS r).mpr (Or.inl hr), ?_, ?_, nt, nr, ntr⟩
          · rw [eq0 s k (fun y => z3 y.1), eq0 t ht (fun y => z3 (et.symm.trans y.1))]; exact et
          · rw [eq0 s k (fun y => z3 y.1), eq0 r hr (fun y => z3 (er.symm.trans y.1))]; exact er
        · exact absurd ej z1
        · exact absurd ej' z2
  · -- partners
    intro s hs hbs
    rcases (eS s).mp hs with k | rfl | rfl
    · obtain ⟨c1, c2, c3⟩ := b6 s k hbs
      refine ⟨(eS _).mpr (Or.inl c1), fun z => c2 (same _ _ c1 k z), fun e he => ?_⟩
      rw [mO _ c1, mO s k]; exact c3 e he
    · rw [pj, mJ, mJ']
      exact ⟨(eS _).mpr (Or.inr (Or.inr rfl)), by rw [ej, ej']; exact fun z => hpp z.symm, fun e _ => Iff.rfl⟩
    · rw [pj', mJ, mJ']
      exact ⟨(eS _).mpr (Or.inr (Or.inl rfl)), by rw [ej, ej']; exact hpp, fun e _ => Classical.not_not.symm⟩
  · -- the tree
    have jS : S' j := (eS j).mpr (Or.inr (Or.inl rfl))
    have jS' : S' j' := (eS j').mpr (Or.inr (Or.inr rfl))
    -- of the new pieces and another
    have new : ∀ t, S t → h t ≠ p → (∃ y x, S' y ∧ S' x ∧ h' y = p ∧ h' x = h' t ∧ ∀ e, E e → M' y e ∨ M' x e) ∧ (∃ y x, S' y ∧ S' x ∧ h' y = p' ∧ h' x = h' t ∧ ∀ e, E e → M' y e ∨ M' x e) := fun t ht nt => by
      obtain ⟨y, x, hy, hx, ey, ex, c⟩ := b7 qa t sa ht (fun k => nt (k.symm.trans ha))
      have ex' : h' x = h' t := by rw [eq0 t ht (fun z => nt z.1), eq0 x hx (fun z => nt (ex.symm.trans z.1))]; exact ex
      by_cases q : Q y
      · refine ⟨⟨j, x, jS, (eS x).mpr (Or.inl hx), ej, ex', fun e he => ?_⟩, ⟨y, x, (eS y).mpr (Or.inl hy), (eS x).mpr (Or.inl hx), eq1 y hy (ey.trans ha) q, ex', fun e he => ?_⟩⟩
        · rw [mJ, mO x hx]; exact (c e he).imp (fun z => ⟨y, hy, ey.trans ha, q, z⟩) id
        · rw [mO y hy, mO x hx]; exact c e he
      · refine ⟨⟨y, x, (eS y).mpr (Or.inl hy), (eS x).mpr (Or.inl hx), (oldp y hy).mpr ⟨ey.trans ha, q⟩, ex', fun e he => ?_⟩, ⟨j', x, jS', (eS x).mpr (Or.inl hx), ej', ex', fun e he => ?_⟩⟩
        · rw [mO y hy, mO x hx]; exact c e he
        · rw [mJ', mO x hx]; exact (c e he).imp (fun z => (part e he).mp ⟨y, hy, ey.trans ha, q, z⟩) id
    have sym : ∀ a c : Int, (∃ y x, S' y ∧ S' x ∧ h' y = a ∧ h' x = c ∧ ∀ e, E e → M' y e ∨ M' x e) → ∃ y x, S' y ∧ S' x ∧ h' y = c ∧ h' x = a ∧ ∀ e, E e → M' y e ∨ M' x e := fun a c ⟨y, x, hy, hx, ey, ex, cc⟩ => ⟨x, y, hx, hy, ex, ey, fun e he => (cc e he).symm⟩
    have jj : ∃ y x, S' y ∧ S' x ∧ h' y = p ∧ h' x = p' ∧ ∀ e, E e → M' y e ∨ M' x e := ⟨j, j', jS, jS', ej, ej', fun e he => by rw [mJ, mJ']; exact Classical.em _⟩
    have cls : ∀ s, S' s → h' s = p ∨ h' s = p' ∨ (S s ∧ h s ≠ p) := fun s hs => by
      rcases (eS s).mp hs with k | rfl | rfl
      · by_cases z : h s = p
        · by_cases q : Q s
          · exact Or.inr (Or.inl (eq1 s k z q))
          · exact Or.inl ((oldp s k).mpr ⟨z, q⟩)
        · exact Or.inr (Or.inr ⟨k, z⟩)
      · exact Or.inl ej
      · exact Or.inr (Or.inl ej')
    intro s t hs ht hne
    rcases cls s hs with z | z | ⟨k, z⟩ <;> rcases cls t ht with z2 | z2 | ⟨k2, z2⟩
    · exact absurd (z.trans z2.symm) hne
    · rw [z, z2]; exact jj
    · rw [z]; exact (new t k2 z2).1
    · rw [z, z2]; exact sym _ _ jj
    · exact absurd (z.trans z2.symm) hne
    · rw [z]; exact (new t k2 z2).2
    · rw [z2]; exact sym _ _ (new s k z).1
    · rw [z2]; exact sym _ _ (new s k z).2
    · rw [eq0 s k (fun y => z y.1), eq0 t k2 (fun y => z2 y.1)] at hne ⊢
      obtain ⟨y, x, hy, hx, ey, ex, c⟩ := b7 s t k k2 hne
      refine ⟨y, x, (eS y).mpr (Or.inl hy), (eS x).mpr (Or.inl hx), ?_, ?_, fun e he => by rw [mO y hy, mO x hx]; exact c e he⟩
      · rw [eq0 y hy (fun q => z (ey.symm.trans q.1))]; exact ey
      · rw [eq0 x hx (fun q => z2 (ex.symm.trans q.1))]; exact ex
  · intro s hs hsb
    rcases (eS s).mp hs with k | rfl | rfl
    · rw [mO s k]; exact b8 s k hsb
    · omega
    · omega
  · intro e he
    obtain ⟨s, hsb, hs, ws⟩ := b9 e he
    exact ⟨s, hsb, (eS s).mpr (Or.inl hs), ws⟩
/-- two pieces become one: the joint between them is gone -/
theorem bas_merge (B : Bas E I S h U V M pt b w) {j j' : Nat} (hj : S j) (hj' : S j') (bj : b ≤ j) (bj' : b ≤ j') (pj : pt j = j') (inv : ∀ s, b ≤ s → b ≤ pt s ∧ pt (pt s) = s) (eS : ∀ s, S' s ↔ S s ∧ s ≠ j ∧ s ≠ j')
    (eq1 : ∀ s, S' s → h s = h j' → h' s = h j) (eq0 : ∀ s, S' s → h s ≠ h j' → h' s = h s) : Bas E I S' h' U V M pt b w := by
  obtain ⟨b0, b1, b2, b3, b4, b5, b6, b7, b8, b9⟩ := B
  obtain ⟨c1, c2, c3⟩ := b6 j hj bj
  rw [pj] at c2 c3
  have jj : j ≠ j' := fun k => c2 (by rw [k])
  have old : ∀ s, S' s → S s := fun s hs => ((eS s).mp hs).1
  -- the united piece and the others
  have one : ∀ s, S' s → (h' s = h j ↔ h s = h j ∨ h s = h j') := fun s hs => by
    by_cases k : h s = h j'
    · rw [eq1 s hs k]; exact ⟨fun _ => Or.inr k, fun _ => rfl⟩
    · rw [eq0 s hs k]; exact ⟨Or.inl, fun z => z.resolve_right k⟩
  have oth : ∀ s t, S' s → S' t → h' s = h' t → h s ≠ h j → h s ≠ h j' → h s = h t := fun s t hs ht k z1 z2 => by
    rw [eq0 s hs z2] at k
    by_cases y : h t = h j'
    · rw [eq1 t ht y] at k; exact absurd k z1
    · rw [eq0 t ht y] at k; exact k
  refine ⟨fun s hs => b0 s (old s hs), ?_, ?_, fun s hs => b3 s (old s hs), fun s hs => b4 s (old s hs), ?_, ?_, ?_, fun s hs => b8 s (old s hs), ?_⟩
  · intro s t hs ht hh nst e he ms mt
    have ks := old s hs
    have kt := old t ht
    obtain ⟨-, sj, sj'⟩ := (eS s).mp hs
    obtain ⟨-, tj, tj'⟩ := (eS t).mp ht
    by_cases z1 : h s = h j
    · rcases (one t ht).mp (hh ▸ (one s hs).mpr (Or.inl z1)) with y | y
      · exact b1 s t ks kt (z1.trans y.symm) nst e he ms mt
      · exact b1 t j' kt hj' y tj' e he mt ((c3 e he).mpr (b1 s j ks hj z1 sj e he ms))
    · by_cases z2 : h s = h j'
      · rcases (one t ht).mp (hh ▸ (one s hs).mpr (Or.inr z2)) with y | y
        · exact b1 s j' ks hj' z2 sj' e he ms ((c3 e he).mpr (b1 t j kt hj y tj e he mt))
        · exact b1 s t ks kt (z2.trans y.symm) nst e he ms mt
      · exact b1 s t ks kt (oth s t hs ht hh z1 z2) nst e he ms mt
  · intro s hs e he
    by_cases z : h s = h j ∨ h s = h j'
    · rw [(one s hs).mpr z]
      by_cases k : M j e
      · obtain ⟨t, ht, et, mt⟩ := b2 j' hj' e he
        have tj' : t ≠ j' := fun y => (c3 e he).mp (y ▸ mt) k
        have tS := (eS t).mpr ⟨ht, fun y => c2 (by rw [← et, y]), tj'⟩
        exact ⟨t, tS, (one t tS).mpr (Or.inr et), mt⟩
      · obtain ⟨t, ht, et, mt⟩ := b2 j hj e he
        have tj : t ≠ j := fun y => k (y ▸ mt)
        have tS := (eS t).mpr ⟨ht, tj, fun y => c2 (by rw [← et, y])⟩
        exact ⟨t, tS, (one t tS).mpr (Or.inl et), mt⟩
    · obtain ⟨t, ht, et, mt⟩ := b2 s (old s hs) e he
      have tS := (eS t).mpr ⟨ht, fun y => z (Or.inl (by rw [← et, y])), fun y => z (Or.inr (by rw [← et, y]))⟩
      refine ⟨t, tS, ?_, mt⟩
      rw [eq0 s hs (fun y => z (Or.inr y)), eq0 t tS (fun y => z (Or.inr (et.symm.trans y)))]; exact et
  · -- three
    intro s hs
    by_cases z : h s = h j ∨ h s = h j'
    · rw [(one s hs).mpr z]
      obtain ⟨t, r, ht, hr, et, er, nt, nr, ntr⟩ := b5 j hj
      obtain ⟨t', r', ht', hr', et', er', nt', nr', ntr'⟩ := b5 j' hj'
      have fr : ∀ a, S a → h a = h j → a ≠ j → S' a := fun a ha ea na => (eS a).mpr ⟨ha, na, fun y => c2 (by rw [← ea, y])⟩
      have fr' : ∀ a, S a → h a = h j' → a ≠ j' → S' a := fun a ha ea na => (eS a).mpr ⟨ha, fun y => c2 (by rw [← ea, y]), na⟩
      have ne : ∀ a c, h a = h j → h c = h j' → a ≠ c := fun a c ea ec y => c2 (by rw [← ea, ← ec, y])
      have o1 : ∀ a, S' a → h a = h j → h' a = h j := fun a ha ea => (one a ha).mpr (Or.inl ea)
      have o2 : ∀ a, S' a → h a = h j' → h' a = h j := fun a ha ea => (one a ha).mpr (Or.inr ea)
      have a1 := fr t ht et nt
      have a2 := fr r hr er nr
      have a3 := fr' t' ht' et' nt'
      have a4 := fr' r' hr' er' nr'
      by_cases y1 : t = s
      · exact ⟨t', r', a3, a4, o2 _ a3 et', o2 _ a4 er', fun y => ne t t' et et' (y1.trans y.symm), fun y => ne t r' et er' (y1.trans y.symm), ntr'⟩
      · by_cases y2 : r = s
        · exact ⟨t', r', a3, a4, o2 _ a3 et', o2 _ a4 er', fun y => ne r t' er et' (y2.trans y.symm), fun y => ne r r' er er' (y2.trans y.symm), ntr'⟩
        · exact ⟨t, r, a1, a2, o1 _ a1 et, o1 _ a2 er, y1, y2, ntr⟩
    · obtain ⟨t, r, ht, hr, et, er, nt, nr, ntr⟩ := b5 s (old s hs)
      have k1 : ∀ a, S a → h a = h s → S' a := fun a ha ea => (eS a).mpr ⟨ha, fun y => z (Or.inl (by rw [← ea, y])), fun y => z (Or.inr (by rw [← ea, y]))⟩
      have k2 : ∀ a, S a → h a = h s → h' a = h' s := fun a ha ea => by rw [eq0 s hs (fun y => z (Or.inr y)), eq0 a (k1 a ha ea) (fun y => z (Or.inr (ea.symm.trans y)))]; exact ea
      exact ⟨t, r, k1 t ht et, k1 r hr er, k2 t ht et, k2 r hr er, nt, nr, ntr⟩
  · -- partners
    intro s hs hbs
    obtain ⟨ks, sj, sj'⟩ := (eS s).mp hs
    obtain ⟨q1, q2, q3⟩ := b6 s ks hbs
    obtain ⟨ib, ii⟩ := inv s hbs
    have pS : S' (pt s) := (eS _).mpr ⟨q1, fun y => sj' (by rw [← pj, ← y, ii]), fun y => sj (by
      have := (inv j bj).2
      rw [pj, ← y, ii] at this; exact this)⟩
    refine ⟨pS, fun y => ?_, q3⟩
    -- two joints between the same two pieces
    have two : ∀ a c, S a → S c → a ≠ j → c ≠ j' → h a = h j → h c = h j' → (∀ e, E e → (M c e ↔ ¬ M a e)) → False := fun a c ha hc na nc ea ec hm => by
      obtain ⟨t, r, ht, hr, et, er, nt, nr, ntr⟩ := b5 j hj
      have third : ∀ t, S t → h t = h j → t ≠ j → t = a := fun t ht et nt => Classical.byContradiction fun k => by
        obtain ⟨e, he, me⟩ := b3 t ht
        have n1 := b1 t j ht hj et nt e he me
        have n2 := b1 t a ht ha (et.trans ea.symm) k e he me
        exact b1 c j' hc hj' ec nc e he ((hm e he).mpr n2) ((c3 e he).mpr n1)
      exact ntr ((third t ht et nt).trans (third r hr er nr).symm)
    by_cases z1 : h s = h j
    · rcases (one _ pS).mp (y ▸ (one s hs).mpr (Or.inl z1)) with x | x
      · exact q2 (x.trans z1.symm)
      · exact two s (pt s) ks q1 sj ((eS _).mp pS).2.2 z1 x q3
    · by_cases z2 : h s = h j'
      · rcases (one _ pS).mp (y ▸ (one s hs).mpr (Or.inr z2)) with x | x
        · exact two (pt s) s q1 ks ((eS _).mp pS).2.1 sj' x z2 (fun e he => ⟨fun m k => (q3 e he).mp k m, fun k => Classical.byContradiction fun m => k ((q3 e he).mpr m)⟩)
        · exact q2 (x.trans z2.symm)
      · exact q2 (oth s (pt s) hs pS y.symm z1 z2).symm
  · -- the tree
    have uni : ∀ t, S' t → h t ≠ h j → h t ≠ h j' → ∃ y x, S' y ∧ S' x ∧ h' y = h j ∧ h' x = h' t ∧ ∀ e, E e → M y e ∨ M x e := fun t ht n1 n2 => by
      have kt := old t ht
      have xS : ∀ x, S x → h x = h t → S' x := fun x hx ex => (eS x).mpr ⟨hx, fun y => n1 (by rw [← ex, y]), fun y => n2 (by rw [← ex, y])⟩
      have xh : ∀ x, S x → h x = h t → h' x = h' t := fun x hx ex => by rw [eq0 t ht n2, eq0 x (xS x hx ex) (fun y => n2 (ex.symm.trans y))]; exact ex
      obtain ⟨y, x, hy, hx, ey, ex, c⟩ := b7 j t hj kt (fun k => n1 k.symm)
      by_cases k : y = j
      · subst k
        obtain ⟨y2, x2, hy2, hx2, ey2, ex2, c'⟩ := b7 j' t hj' kt (fun k => n2 k.symm)
        by_cases k2 : y2 = j'
        · subst k2
          exfalso
          -- x and x2 would be the whole piece
          have ⟨r, hr, er, rx, rx2⟩ : ∃ r, S r ∧ h r = h t ∧ r ≠ x ∧ r ≠ x2 := by
            by_cases xx : x = x2
            · obtain ⟨a, c, ha, hc, ea, ec, na, nc, nac⟩ := b5 x hx
              exact ⟨a, ha, ea.trans ex, na, fun z => na (z.trans xx.symm)⟩
            · obtain ⟨a, c, ha, hc, ea, ec, na, nc, nac⟩ := b5 x hx
              by_cases z : a = x2
              · exact ⟨c, hc, ec.trans ex, nc, fun y => nac (z.trans y.symm)⟩
              · exact ⟨a, ha, ea.trans ex, na, z⟩
          obtain ⟨e, he, me⟩ := b3 r hr
          have m1 := b1 r x hr hx (er.trans ex.symm) rx e he me
          have m2 := b1 r x2 hr hx2 (er.trans ex2.symm) rx2 e he me
          rcases c e he with z | z
          · rcases c' e he with z' | z'
            · exact (c3 e he).mp z' z
            · exact m2 z'
          · exact m1 z
        · have yS := (eS y2).mpr ⟨hy2, fun z => c2 (by rw [← ey2, z]), k2⟩
          exact ⟨y2, x2, yS, xS x2 hx2 ex2, (one y2 yS).mpr (Or.inr ey2), xh x2 hx2 ex2, c'⟩
      · have yS := (eS y).mpr ⟨hy, k, fun z => c2 (by rw [← ey, z])⟩
        exact ⟨y, x, yS, xS x hx ex, (one y yS).mpr (Or.inl ey), xh x hx ex, c⟩
    intro s t hs ht hne
    by_cases z1 : h s = h j ∨ h s = h j'
    · by_cases z2 : h t = h j ∨ h t = h j'
      · exact absurd (((one s hs).mpr z1).trans ((one t ht).mpr z2).symm) hne
      · rw [(one s hs).mpr z1]; exact uni t ht (fun k => z2 (Or.inl k)) (fun k => z2 (Or.inr k))
    · by_cases z2 : h t = h j ∨ h t = h j'
      · rw [(one t ht).mpr z2]
        obtain ⟨y, x, hy, hx, ey, ex, c⟩ := uni s hs (fun k => z1 (Or.inl k)) (fun k => z1 (Or.inr k))
        exact ⟨x, y, hx, hy, ex, ey, fun e he => (c e he).symm⟩
      · have es := eq0 s hs (fun y => z1 (Or.inr y))
        have et := eq0 t ht (fun y => z2 (Or.inr y))
        rw [es, et] at hne ⊢
        obtain ⟨y, x, hy, hx, ey, ex, c⟩ := b7 s t (old s hs) (old t ht) hne
        have yS := (eS y).mpr ⟨hy, fun k => z1 (Or.inl (by rw [← ey, k])), fun k => z1 (Or.inr (by rw [← ey, k]))⟩
        have xS := (eS x).mpr ⟨hx, fun k => z2 (Or.inl (by rw [← ex, k])), fun k => z2 (Or.inr (by rw [← ex, k]))⟩
        refine ⟨y, x, yS, xS, ?_, ?_, c⟩
        · rw [eq0 y yS (fun k => z1 (Or.inr (ey.symm.trans k)))]; exact ey
        · rw [eq0 x xS (fun k => z2 (Or.inr (ex.symm.trans k)))]; exact ex
  · intro e he
    obtain ⟨s, hsb, hs, ws⟩ := b9 e he
    exact ⟨s, hsb, (eS s).mpr ⟨hs, by omega, by omega⟩, ws⟩
end
