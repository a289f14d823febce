/-! PURE PART IV: two points that no edge joins come apart exactly when no bond and no rigid node has both -/
section
variable {E : Nat → Prop} {I : Nat → Nat → Prop} {S : Nat → Prop} {h : Nat → Int} {M : Nat → Nat → Prop} {pt : Nat → Nat} {kd : Int → Int}
/-- the ends of a single edge are its common points -/
theorem single_bdy (g : Gr E I) {X : Nat → Prop} {e : Nat} (he : E e) (hX : fn E I X = 2) (hm : ∀ e', E e' → (X e' ↔ e' = e)) {x : Nat} : bdy E I X x ↔ I e x := by
  obtain ⟨p, q, hp, hq, hpq, hI⟩ := g.2 e he
  have sub : ∀ x, bdy E I X x → I e x := fun x ⟨⟨e', he', m', hi'⟩, _⟩ => by
    have := (hm e' he').mp m'
    subst this; exact hi'
  refine ⟨sub x, fun hi => ?_⟩
  have hx := g.lt he hi
  refine cnt_eq (n := 40) (P := bdy E I X) (Q := fun y => I e y) (fun y _ => sub y) ?_ x hx hi
  have : cnt 40 (fun y => I e y) ≤ 2 := cnt_le2 (u := p) (v := q) (fun y _ hy => (hI y).mp hy)
  unfold fn at hX
  omega
theorem apart_ring (g : Gr E I) (h2 : Two E I) (D : Dec E I S h M pt kd) {u v : Nat} {X : Nat → Prop} (hX : fn E I X ≤ 2) (hu : ∀ e, E e → I e u → X e) (hv : ∀ e, E e → I e v → ¬ X e)
    {s t : Nat} (hs : S s) (ht : S t) (hh : h s = h t) (bs : bdy E I (M s) u) (bt : bdy E I (M t) v) : kd (h s) = 1 := by
  obtain ⟨d0, d1, d2, d3, d4, d5, d6, d7, d8, d9⟩ := id D
  obtain ⟨⟨e1, he1, m1, i1⟩, ⟨e2, he2, m2, i2⟩⟩ := id bs
  obtain ⟨⟨e3, he3, m3, i3⟩, ⟨e4, he4, m4, i4⟩⟩ := id bt
  obtain ⟨s2, hs2, es2, ms2⟩ := d2 s hs e2 he2
  obtain ⟨t2, ht2, et2, mt2⟩ := d2 s hs e4 he4
  have ns : s ≠ s2 := fun k => m2 (k ▸ ms2)
  have nt : t ≠ t2 := fun k => m4 (k ▸ mt2)
  have x1 := hu e1 he1 i1
  have x2 := hu e2 he2 i2
  have x3 := hv e3 he3 i3
  have x4 := hv e4 he4 i4
  have loc : ∀ r, S r → h r = h s → (∀ e, E e → M r e → X e) ∨ (∀ e, E e → M r e → ¬ X e) := fun r hr er => Classical.byContradiction fun k => by
    have ⟨a, ha, a1, a2⟩ : ∃ e, E e ∧ M r e ∧ ¬ X e := Classical.byContradiction fun z => k (Or.inl fun e he hm => Classical.byContradiction fun w => z ⟨e, he, hm, w⟩)
    have ⟨b, hb, b1, b2⟩ : ∃ e, E e ∧ M r e ∧ X e := Classical.byContradiction fun z => k (Or.inr fun e he hm w => z ⟨e, he, hm, w⟩)
    refine uncrossed g h2 D hr hX ⟨⟨b, hb, b1, b2⟩, ⟨a, ha, a1, a2⟩, ?_, ?_⟩
    · by_cases k : M r e1
      · refine ⟨e2, he2, fun z => ?_, x2⟩
        have q1 : r = s := Classical.byContradiction fun w => d1 r s hr hs er w e1 he1 k m1
        exact m2 (q1 ▸ z)
      · exact ⟨e1, he1, k, x1⟩
    · by_cases k : M r e3
      · refine ⟨e4, he4, fun z => ?_, x4⟩
        have q1 : r = t := Classical.byContradiction fun w => d1 r t hr ht (er.trans hh) w e3 he3 k m3
        exact m4 (q1 ▸ z)
      · exact ⟨e3, he3, k, x3⟩
  rcases d8 s hs with ⟨k, hb⟩ | ⟨k, -⟩ | ⟨k, hrg, -⟩
  · exfalso
    obtain ⟨⟨e, he, m, i⟩, -⟩ := (hb t ht hh.symm u).mp bs
    rcases loc t ht hh.symm with z | z
    · exact x3 (z e3 he3 m3)
    · exact z e he m (hu e he i)
  · exact k
  · exfalso
    refine hrg (fun r => ∀ e, E e → M r e → X e) ?_ s s2 t t2 hs hs2 ht ht2 rfl es2 hh.symm et2 ns nt ((loc s hs rfl).elim id fun z => absurd x1 (z e1 he1 m1)) ((loc s2 hs2 es2).elim id fun z => absurd x2 (z e2 he2 ms2)) (fun z => x3 (z e3 he3 m3)) (fun z => x4 (z e4 he4 mt2))
    rw [fn_congr (Y := X) (fun e he => ?_)]
    · exact hX
    · constructor
      · rintro ⟨r, hr, er, c, m⟩; exact c e he m
      · intro k
        obtain ⟨r, hr, er, mr⟩ := d2 s hs e he
        exact ⟨r, hr, er, (loc r hr er).elim id fun z => absurd k (z e he mr), mr⟩
theorem apart_cut (g : Gr E I) (h2 : Two E I) (D : Dec E I S h M pt kd) {u v : Nat} (huv : u ≠ v) (hu : ∃ e, E e ∧ I e u) (hv : ∃ e, E e ∧ I e v) (hno : ∀ e, E e → I e u → ¬ I e v)
    (hnode : ∀ s t, S s → S t → h s = h t → bdy E I (M s) u → bdy E I (M t) v → kd (h s) = 1) : ∃ X : Nat → Prop, fn E I X ≤ 2 ∧ (∀ e, E e → I e u → X e) ∧ (∀ e, E e → I e v → ¬ X e) := by
  obtain ⟨d0, d1, d2, d3, d4, d5, d6, d7, d8, d9⟩ := id D
  obtain ⟨eu, heu, iu⟩ := hu
  obtain ⟨ev, hev, iv⟩ := hv
  -- a node with both is a ring
  have both : ∀ s t, S s → S t → h s = h t → bdy E I (M s) u → bdy E I (M t) v → ∃ X : Nat → Prop, fn E I X ≤ 2 ∧ (∀ e, E e → I e u → X e) ∧ (∀ e, E e → I e v → ¬ X e) := fun s t hs ht hh bs bt => by
    have k := hnode s t hs ht hh bs bt
    have ring : ∀ x t r q, S t → S r → S q → h t = h s → h r = h s → h q = h s → t ≠ r → t ≠ q → r ≠ q → bdy E I (M t) x → bdy E I (M r) x → ¬ bdy E I (M q) x := by
      rcases d8 s hs with ⟨z, -⟩ | ⟨-, z⟩ | ⟨z, -⟩
      · omega
      · exact z
      · omega
    -- no slot has both for its ends
    have nb : ∀ r, S r → h r = h s → bdy E I (M r) u → ¬ bdy E I (M r) v := fun r hr er bu bv => by
      rcases d6 r hr with ⟨e, he, hm⟩ | ⟨hp, hne, hm, hk⟩
      · exact hno e he ((single_bdy g he (d4 r hr) hm).mp bu) ((single_bdy g he (d4 r hr) hm).mp bv)
      · have bb : ∀ x, bdy E I (M (pt r)) x ↔ bdy E I (M r) x := fun x => (bdy_congr hm x).trans (bdy_not x)
        have := hnode (pt r) (pt r) hp hp rfl ((bb u).mpr bu) ((bb v).mpr bv)
        rw [er] at hk
        exact hk ⟨k.trans this.symm, by omega⟩
    obtain ⟨⟨e1, he1, m1, i1⟩, ⟨e2, he2, m2, i2⟩⟩ := id bs
    obtain ⟨r, hr, er, mr⟩ := d2 s hs e2 he2
    have nsr : s ≠ r := fun z => m2 (z ▸ mr)
    have br : bdy E I (M r) u := ⟨⟨e2, he2, mr, i2⟩, ⟨e1, he1, d1 s r hs hr er.symm nsr e1 he1 m1, i1⟩⟩
    refine ⟨fun e => M s e ∨ M r e, ring_two g D hs k hs hr rfl er nsr bs br, fun e he i => Classical.byContradiction fun z => ?_, fun e he i z => ?_⟩
    · obtain ⟨q, hq, eq, mq⟩ := d2 s hs e he
      have nsq : s ≠ q := fun w => z (Or.inl (w ▸ mq))
      have nrq : r ≠ q := fun w => z (Or.inr (w ▸ mq))
      exact ring u s r q hs hr hq rfl er eq nsr nsq nrq bs br ⟨⟨e, he, mq, i⟩, ⟨e1, he1, d1 s q hs hq eq.symm nsq e1 he1 m1, i1⟩⟩
    · -- v is an end of a slot of the node, so it is an end of s or r
      obtain ⟨⟨e3, he3, m3, i3⟩, ⟨e4, he4, m4, i4⟩⟩ := bt
      have key : ∀ q, S q → h q = h s → bdy E I (M q) u → ¬ M q e := fun q hq eq bq mq => by
        refine nb q hq eq bq ⟨⟨e, he, mq, i⟩, ?_⟩
        by_cases w : M q e3
        · refine ⟨e4, he4, fun z => ?_, i4⟩
          have : q = t := Classical.byContradiction fun y => d1 q t hq ht (eq.trans hh) y e3 he3 w m3
          exact m4 (this ▸ z)
        · exact ⟨e3, he3, w, i3⟩
      rcases z with z | z
      · exact key s hs rfl bs z
      · exact key r hr er br z
  -- else a joint on the way
  have go : ∀ (n : Nat) (s t : Nat), S s → S t → h s = h t → cnt 100 (fun e => E e ∧ M t e) ≤ n → bdy E I (M s) u → M t ev → ∃ X : Nat → Prop, fn E I X ≤ 2 ∧ (∀ e, E e → I e u → X e) ∧ (∀ e, E e → I e v → ¬ X e) := by
    intro n
    induction n with
    | zero => intro s t hs ht hh hc bs mt; exact absurd ⟨hev, mt⟩ (cnt_zero (n := 100) (P := fun e => E e ∧ M t e) (by omega) (g.1 ev hev))
    | succ n ih =>
      intro s t hs ht hh hc bs mt
      by_cases bv : bdy E I (M t) v
      · exact both s t hs ht hh bs bv
      have allv : ∀ e, E e → I e v → M t e := fun e he i => Classical.byContradiction fun k => bv ⟨⟨ev, hev, mt, iv⟩, ⟨e, he, k, i⟩⟩
      by_cases bu : bdy E I (M t) u
      · rcases d6 t ht with ⟨e, he, hm⟩ | ⟨hp, hne, hm, hk⟩
        · exfalso
          have := (hm ev hev).mp mt
          subst this
          exact hno ev hev ((single_bdy g hev (d4 t ht) hm).mp bu) iv
        · have bb : ∀ x, bdy E I (M (pt t)) x ↔ bdy E I (M t) x := fun x => (bdy_congr hm x).trans (bdy_not x)
          obtain ⟨r, hr, er, mr⟩ := d2 (pt t) hp ev hev
          have nr : r ≠ pt t := fun k => (hm ev hev).mp (k ▸ mr) mt
          refine ih (pt t) r hp hr er.symm ?_ ((bb u).mpr bu) mr
          have within : ∀ q, S q → h q = h (pt t) → q ≠ pt t → ∀ e, E e → M q e → M t e := fun q hq eq nq e he mq => Classical.byContradiction fun k => d1 q (pt t) hq hp eq nq e he mq ((hm e he).mpr k)
          have ⟨q, hq, eq, qp, qr⟩ : ∃ q, S q ∧ h q = h (pt t) ∧ q ≠ pt t ∧ q ≠ r := by
            obtain ⟨x, y, hx, hy, ex, ey, nx, ny, nxy⟩ := d5 _ hp
            by_cases k : x = r
            · exact ⟨y, hy, ey, ny, fun z => nxy (k.trans z.symm)⟩
            · exact ⟨x, hx, ex, nx, k⟩
          obtain ⟨e, he, me⟩ := d3 q hq
          have := cnt_lt (n := 100) (P := fun e => E e ∧ M r e) (Q := fun e => E e ∧ M t e) (fun e _ z => ⟨z.1, within r hr er nr e z.1 z.2⟩) (g.1 e he) ⟨he, within q hq eq qp e he me⟩ (fun z => d1 q r hq hr (eq.trans er.symm) qr e he me z.2)
          omega
      · refine ⟨fun e => ¬ M t e, by rw [fn_not]; have := d4 t ht; omega, fun e he i k => ?_, fun e he i k => k (allv e he i)⟩
        obtain ⟨⟨e1, he1, m1, i1⟩, ⟨e2, he2, m2, i2⟩⟩ := id bs
        refine bu ⟨⟨e, he, k, i⟩, ?_⟩
        by_cases w : M t e1
        · refine ⟨e2, he2, fun z => ?_, i2⟩
          have : s = t := Classical.byContradiction fun y => d1 s t hs ht hh y e1 he1 m1 w
          exact m2 (this ▸ z)
        · exact ⟨e1, he1, w, i1⟩
  obtain ⟨s, hs, ms⟩ := d9 eu heu
  obtain ⟨t, ht, et, mt⟩ := d2 s hs ev hev
  exact go _ s t hs ht et.symm (Nat.le_refl _) ((single_bdy g heu (d4 s hs) ms).mpr iu) mt
end
