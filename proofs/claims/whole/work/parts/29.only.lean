/-! PURE PART III: the joints are the cuts that no cut crosses; two reduced trees of one graph are one -/
section
variable {E : Nat → Prop} {I : Nat → Nat → Prop} {S : Nat → Prop} {h : Nat → Int} {M : Nat → Nat → Prop} {pt : Nat → Nat} {kd : Int → Int}
/-- two slots of a ring with a point in common -/
theorem ring_two (g : Gr E I) (D : Dec E I S h M pt kd) {s t r w : Nat} (hs : S s) (k1 : kd (h s) = 1) (ht : S t) (hr : S r) (et : h t = h s) (er : h r = h s) (tr : t ≠ r) (bt : bdy E I (M t) w) (br : bdy E I (M r) w) : fn E I (fun e => M t e ∨ M r e) ≤ 2 := by
  obtain ⟨d0, d1, d2, d3, d4, d5, d6, d7, d8, d9⟩ := D
  have hw := bdy_lt g bt
  have ring : ∀ x t r q, S t → S r → S q → h t = h s → h r = h s → h q = h s → t ≠ r → t ≠ q → r ≠ q → bdy E I (M t) x → bdy E I (M r) x → ¬ bdy E I (M q) x := by
    rcases d8 s hs with ⟨k, -⟩ | ⟨-, k⟩ | ⟨k, -⟩
    · omega
    · exact k
    · omega
  have sub : ∀ x, x < 40 → bdy E I (fun e => M t e ∨ M r e) x → (bdy E I (M t) x ∧ x ≠ w) ∨ (bdy E I (M r) x ∧ x ≠ w) := fun x _ ⟨⟨e, he, hm, hi⟩, ⟨e', he', hm', hi'⟩⟩ => by
    have xw : x ≠ w := fun k => by
      subst k
      obtain ⟨q, hq, eq, mq⟩ := d2 s hs e' he'
      have tq : t ≠ q := fun k => hm' (Or.inl (k ▸ mq))
      have rq : r ≠ q := fun k => hm' (Or.inr (k ▸ mq))
      refine ring x t r q ht hr hq et er eq tr tq rq bt br ⟨⟨e', he', mq, hi'⟩, ?_⟩
      rcases hm with z | z
      · exact ⟨e, he, d1 t q ht hq (et.trans eq.symm) tq e he z, hi⟩
      · exact ⟨e, he, d1 r q hr hq (er.trans eq.symm) rq e he z, hi⟩
    rcases hm with z | z
    · exact Or.inl ⟨⟨⟨e, he, z, hi⟩, ⟨e', he', fun k => hm' (Or.inl k), hi'⟩⟩, xw⟩
    · exact Or.inr ⟨⟨⟨e, he, z, hi⟩, ⟨e', he', fun k => hm' (Or.inr k), hi'⟩⟩, xw⟩
  have a := cnt_mono (n := 40) sub
  have b := cnt_or (n := 40) (P := fun x => bdy E I (M t) x ∧ x ≠ w) (Q := fun x => bdy E I (M r) x ∧ x ≠ w)
  have c := cnt_rem hw bt
  have d := cnt_rem hw br
  have e := d4 t ht
  have f := d4 r hr
  unfold fn at e f ⊢
  omega
theorem bond_two (D : Dec E I S h M pt kd) {s t r : Nat} (hs : S s) (k0 : kd (h s) = 0) (ht : S t) (hr : S r) (et : h t = h s) (er : h r = h s) : fn E I (fun e => M t e ∨ M r e) ≤ 2 := by
  obtain ⟨d0, d1, d2, d3, d4, d5, d6, d7, d8, d9⟩ := D
  rcases d8 s hs with ⟨-, k⟩ | ⟨k, -⟩ | ⟨k, -⟩
  · have a := cnt_mono (n := 40) (P := bdy E I (fun e => M t e ∨ M r e)) (Q := bdy E I (M s)) (fun x _ ⟨⟨e, he, hm, hi⟩, ⟨e', he', hm', hi'⟩⟩ => by
      rcases hm with z | z
      · exact (k t ht et x).mpr ⟨⟨e, he, z, hi⟩, ⟨e', he', fun k => hm' (Or.inl k), hi'⟩⟩
      · exact (k r hr er x).mpr ⟨⟨e, he, z, hi⟩, ⟨e', he', fun k => hm' (Or.inr k), hi'⟩⟩)
    have b := d4 s hs
    unfold fn at b ⊢
    omega
  · omega
  · omega
/-- what no cut crosses, and no slot of a node is cut by, is a slot -/
theorem located (g : Gr E I) (D : Dec E I S h M pt kd) {s : Nat} (hs : S s) {A : Nat → Prop} (hA : fn E I A = 2) (hA1 : ∃ e, E e ∧ A e) (hA2 : ∃ e, E e ∧ ¬ A e)
    (good : ∀ C : Nat → Prop, fn E I C ≤ 2 → ¬ crs E A C) (hloc : ∀ t, S t → h t = h s → (∀ e, E e → M t e → A e) ∨ (∀ e, E e → M t e → ¬ A e)) : ∃ t, S t ∧ ((∀ e, E e → (M t e ↔ A e)) ∨ (∀ e, E e → (M t e ↔ ¬ A e))) := by
  refine Classical.byContradiction fun hno => ?_
  obtain ⟨d0, d1, d2, d3, d4, d5, d6, d7, d8, d9⟩ := id D
  -- two slots on each side, the first given
  have inn : ∀ t, S t → h t = h s → (∀ e, E e → M t e → A e) → ∃ t', S t' ∧ h t' = h s ∧ t' ≠ t ∧ (∀ e, E e → M t' e → A e) := fun t ht et ct => by
    have ⟨e, he, ha, hm⟩ : ∃ e, E e ∧ A e ∧ ¬ M t e := Classical.byContradiction fun k => hno ⟨t, ht, Or.inl fun e he => ⟨ct e he, fun z => Classical.byContradiction fun w => k ⟨e, he, z, w⟩⟩⟩
    obtain ⟨t', ht', et', mt'⟩ := d2 s hs e he
    exact ⟨t', ht', et', fun k => hm (k ▸ mt'), (hloc t' ht' et').elim id (fun k => absurd ha (k e he mt'))⟩
  have out : ∀ t, S t → h t = h s → (∀ e, E e → M t e → ¬ A e) → ∃ t', S t' ∧ h t' = h s ∧ t' ≠ t ∧ (∀ e, E e → M t' e → ¬ A e) := fun t ht et ct => by
    have ⟨e, he, ha, hm⟩ : ∃ e, E e ∧ ¬ A e ∧ ¬ M t e := Classical.byContradiction fun k => hno ⟨t, ht, Or.inr fun e he => ⟨ct e he, fun z => Classical.byContradiction fun w => k ⟨e, he, z, w⟩⟩⟩
    obtain ⟨t', ht', et', mt'⟩ := d2 s hs e he
    exact ⟨t', ht', et', fun k => hm (k ▸ mt'), (hloc t' ht' et').elim (fun k => absurd (k e he mt') ha) id⟩
  -- with a slot of each side whose union is a cut there is a crossing one
  have fin : ∀ t r, S t → S r → h t = h s → h r = h s → (∀ e, E e → M t e → A e) → (∀ e, E e → M r e → ¬ A e) → fn E I (fun e => M t e ∨ M r e) ≤ 2 → False := fun t r ht hr et er ct cr hf => by
    obtain ⟨t', ht', et', nt', ct'⟩ := inn t ht et ct
    obtain ⟨r', hr', er', nr', cr'⟩ := out r hr er cr
    obtain ⟨e1, he1, m1⟩ := d3 t ht
    obtain ⟨e2, he2, m2⟩ := d3 t' ht'
    obtain ⟨e3, he3, m3⟩ := d3 r hr
    obtain ⟨e4, he4, m4⟩ := d3 r' hr'
    refine good _ hf ⟨⟨e1, he1, ct e1 he1 m1, Or.inl m1⟩, ⟨e2, he2, ct' e2 he2 m2, ?_⟩, ⟨e3, he3, cr e3 he3 m3, Or.inr m3⟩, ⟨e4, he4, cr' e4 he4 m4, ?_⟩⟩
    · rintro (k | k)
      · exact d1 t' t ht' ht (et'.trans et.symm) nt' e2 he2 m2 k
      · exact cr e2 he2 k (ct' e2 he2 m2)
    · rintro (k | k)
      · exact cr' e4 he4 m4 (ct e4 he4 k)
      · exact d1 r' r hr' hr (er'.trans er.symm) nr' e4 he4 m4 k
  -- a common point of both sides
  obtain ⟨x, hx, ⟨e, he, ha, hi⟩, ⟨e', he', ha', hi'⟩⟩ := cnt_some (n := 40) (P := bdy E I A) (by unfold fn at hA; omega)
  obtain ⟨t, ht, et, mt⟩ := d2 s hs e he
  obtain ⟨r, hr, er, mr⟩ := d2 s hs e' he'
  have ct := (hloc t ht et).elim id (fun k => absurd ha (k e he mt))
  have cr := (hloc r hr er).elim (fun k => absurd (k e' he' mr) ha') id
  have tr : t ≠ r := fun k => cr e he (k ▸ mt) ha
  have bt : bdy E I (M t) x := ⟨⟨e, he, mt, hi⟩, ⟨e', he', fun k => ha' (ct e' he' k), hi'⟩⟩
  have br : bdy E I (M r) x := ⟨⟨e', he', mr, hi'⟩, ⟨e, he, fun k => cr e he k ha, hi⟩⟩
  rcases d8 s hs with ⟨k, -⟩ | ⟨k, -⟩ | ⟨-, hrg, -⟩
  · exact fin t r ht hr et er ct cr (bond_two D hs k ht hr et er)
  · exact fin t r ht hr et er ct cr (ring_two g D hs k ht hr et er tr bt br)
  · obtain ⟨t', ht', et', nt', ct'⟩ := inn t ht et ct
    obtain ⟨r', hr', er', nr', cr'⟩ := out r hr er cr
    refine hrg (fun t => ∀ e, E e → M t e → A e) ?_ t t' r r' ht ht' hr hr' et et' er er' (fun k => nt' k.symm) (fun k => nr' k.symm) ct ct' (fun k => ha' (k e' he' mr)) (fun k => ?_)
    · rw [fn_congr (Y := A) (fun e he => ?_)]
      · omega
      · constructor
        · rintro ⟨t, ht, et, tc, tm⟩; exact tc e he tm
        · intro k
          obtain ⟨t, ht, et, tm⟩ := d2 s hs e he
          exact ⟨t, ht, et, (hloc t ht et).elim id (fun z => absurd k (z e he tm)), tm⟩
    · obtain ⟨e4, he4, m4⟩ := d3 r' hr'
      exact cr' e4 he4 m4 (k e4 he4 m4)
/-- THEOREM B: a cut that no cut crosses is a slot's -/
theorem good_slot (g : Gr E I) (D : Dec E I S h M pt kd) {A : Nat → Prop} (hA : fn E I A = 2) (hA1 : big E A) (hA2 : big E (fun e => ¬ A e))
    (good : ∀ C : Nat → Prop, fn E I C ≤ 2 → ¬ crs E A C) : ∃ t, S t ∧ ((∀ e, E e → (M t e ↔ A e)) ∨ (∀ e, E e → (M t e ↔ ¬ A e))) := by
  obtain ⟨d0, d1, d2, d3, d4, d5, d6, d7, d8, d9⟩ := id D
  have hn1 : ∃ e, E e ∧ A e := by obtain ⟨e, -, he, -, ha, -⟩ := hA1; exact ⟨e, he, ha⟩
  have hn2 : ∃ e, E e ∧ ¬ A e := by obtain ⟨e, -, he, -, ha, -⟩ := hA2; exact ⟨e, he, ha⟩
  -- every slot lies to one side
  have four : ∀ t, S t → (∀ e, E e → M t e → A e) ∨ (∀ e, E e → M t e → ¬ A e) ∨ (∀ e, E e → A e → M t e) ∨ (∀ e, E e → ¬ A e → M t e) := fun t ht => Classical.byContradiction fun k => by
    have k1 : ∃ e, E e ∧ M t e ∧ ¬ A e := Classical.byContradiction fun z => k (Or.inl fun e he hm => Classical.byContradiction fun w => z ⟨e, he, hm, w⟩)
    have k2 : ∃ e, E e ∧ M t e ∧ A e := Classical.byContradiction fun z => k (Or.inr (Or.inl fun e he hm w => z ⟨e, he, hm, w⟩))
    have k3 : ∃ e, E e ∧ A e ∧ ¬ M t e := Classical.byContradiction fun z => k (Or.inr (Or.inr (Or.inl fun e he hm => Classical.byContradiction fun w => z ⟨e, he, hm, w⟩)))
    have k4 : ∃ e, E e ∧ ¬ A e ∧ ¬ M t e := Classical.byContradiction fun z => k (Or.inr (Or.inr (Or.inr fun e he hm => Classical.byContradiction fun w => z ⟨e, he, hm, w⟩)))
    obtain ⟨a1, a2, a3, a4⟩ := k1
    obtain ⟨b1, b2, b3, b4⟩ := k2
    exact good (M t) (by have := d4 t ht; omega) ⟨⟨b1, b2, b4, b3⟩, k3, ⟨a1, a2, a4, a3⟩, k4⟩
  have go : ∀ (n : Nat) (A : Nat → Prop), fn E I A = 2 → big E A → big E (fun e => ¬ A e) → (∀ C : Nat → Prop, fn E I C ≤ 2 → ¬ crs E A C) → (∀ t, S t → (∀ e, E e → M t e → A e) ∨ (∀ e, E e → M t e → ¬ A e) ∨ (∀ e, E e → A e → M t e) ∨ (∀ e, E e → ¬ A e → M t e)) →
      ∀ s, S s → cnt 100 (fun e => E e ∧ M s e) ≤ n → (∀ e, E e → A e → M s e) → ∃ t, S t ∧ ((∀ e, E e → (M t e ↔ A e)) ∨ (∀ e, E e → (M t e ↔ ¬ A e))) := by
    intro n
    induction n with
    | zero =>
      intro A hA hA1 hA2 good four s hs hc hsub
      obtain ⟨e, -, he, -, ha, -⟩ := hA1
      exact absurd ⟨he, hsub e he ha⟩ (cnt_zero (n := 100) (P := fun e => E e ∧ M s e) (by omega) (g.1 e he))
    | succ n ih =>
      intro A hA hA1 hA2 good four s hs hc hsub
      have hn1 : ∃ e, E e ∧ A e := by obtain ⟨e, -, he, -, ha, -⟩ := hA1; exact ⟨e, he, ha⟩
      have hn2 : ∃ e, E e ∧ ¬ A e := by obtain ⟨e, -, he, -, ha, -⟩ := hA2; exact ⟨e, he, ha⟩
      by_cases hle : ∀ e, E e → M s e → A e
      · exact ⟨s, hs, Or.inl fun e he => ⟨hle e he, hsub e he⟩⟩
      rcases d6 s hs with ⟨e0, he0, hm0⟩ | ⟨hp, hne, hm, -⟩
      · obtain ⟨e1, e2, h1, h2, a1, a2, ne⟩ := hA1
        exact absurd (((hm0 e1 h1).mp (hsub e1 h1 a1)).trans ((hm0 e2 h2).mp (hsub e2 h2 a2)).symm) ne
      -- the other slots of the node beyond s lie within s
      have within : ∀ t, S t → h t = h (pt s) → t ≠ pt s → ∀ e, E e → M t e → M s e := fun t ht et nt e he mt => Classical.byContradiction fun k => d1 t (pt s) ht hp et nt e he mt ((hm e he).mpr k)
      by_cases hrec : ∃ t, S t ∧ h t = h (pt s) ∧ t ≠ pt s ∧ ∀ e, E e → A e → M t e
      · obtain ⟨t, ht, et, nt, ct⟩ := hrec
        refine ih A hA hA1 hA2 good four t ht ?_ ct
        -- a third slot
        have ⟨r, hr, er, rp, rt⟩ : ∃ r, S r ∧ h r = h (pt s) ∧ r ≠ pt s ∧ r ≠ t := by
          obtain ⟨x, y, hx, hy, ex, ey, nx, ny, nxy⟩ := d5 _ hp
          by_cases k : x = t
          · exact ⟨y, hy, ey, ny, fun z => nxy (k.trans z.symm)⟩
          · exact ⟨x, hx, ex, nx, k⟩
        obtain ⟨e, he, me⟩ := d3 r hr
        have := cnt_lt (n := 100) (P := fun e => E e ∧ M t e) (Q := fun e => E e ∧ M s e) (fun e _ q => ⟨q.1, within t ht et nt e q.1 q.2⟩) (g.1 e he) ⟨he, within r hr er rp e he me⟩ (fun q => d1 r t hr ht (er.trans et.symm) rt e he me q.2)
        omega
      · refine located g D hp hA hn1 hn2 good (fun t ht et => ?_)
        by_cases k : t = pt s
        · subst k; exact Or.inr fun e he mt ha => (hm e he).mp mt (hsub e he ha)
        · rcases four t ht with z | z | z | z
          · exact Or.inl z
          · exact Or.inr z
          · exact absurd ⟨t, ht, et, k, z⟩ hrec
          · refine absurd ?_ (not_exists.mpr (fun e => fun (q : E e ∧ M (pt s) e) => (hm e q.1).mp q.2 ?_))
            · exact d3 _ hp
            · by_cases w : A e
              · exact hsub e q.1 w
              · exact within t ht et k e q.1 (z e q.1 w)
  obtain ⟨e, he, ha⟩ := hn1
  obtain ⟨s, hs, -⟩ := d9 e he
  by_cases hl : ∀ t, S t → h t = h s → (∀ e, E e → M t e → A e) ∨ (∀ e, E e → M t e → ¬ A e)
  · exact located g D hs hA ⟨e, he, ha⟩ hn2 good hl
  · have ⟨t, ht, et, nt⟩ : ∃ t, S t ∧ h t = h s ∧ ¬ ((∀ e, E e → M t e → A e) ∨ (∀ e, E e → M t e → ¬ A e)) := Classical.byContradiction fun k => hl fun t ht et => Classical.byContradiction fun z => k ⟨t, ht, et, z⟩
    rcases four t ht with z | z | z | z
    · exact absurd (Or.inl z) nt
    · exact absurd (Or.inr z) nt
    · exact go _ A hA hA1 hA2 good four t ht (Nat.le_refl _) z
    · have nn : ∀ e, ¬ ¬ A e → A e := fun e => Classical.not_not.mp
      obtain ⟨r, hr, q⟩ := go _ (fun e => ¬ A e) (by rw [fn_not]; exact hA) hA2 (by obtain ⟨e1, e2, h1, h2, a1, a2, ne⟩ := hA1; exact ⟨e1, e2, h1, h2, fun k => k a1, fun k => k a2, ne⟩)
        (fun C hC ⟨q1, q2, ⟨e3, h3, a3, c3⟩, ⟨e4, h4, a4, c4⟩⟩ => good C hC ⟨⟨e3, h3, nn _ a3, c3⟩, ⟨e4, h4, nn _ a4, c4⟩, q1, q2⟩)
        (fun t ht => by
          rcases four t ht with z | z | z | z
          · exact Or.inr (Or.inl fun e he hm k => k (z e he hm))
          · exact Or.inl z
          · exact Or.inr (Or.inr (Or.inr fun e he k => z e he (nn _ k)))
          · exact Or.inr (Or.inr (Or.inl z))) t ht (Nat.le_refl _) z
      refine ⟨r, hr, q.symm.imp (fun k e he => (k e he).trans Classical.not_not) id⟩
end
section
variable {E : Nat → Prop} {I : Nat → Nat → Prop} {S S' : Nat → Prop} {h h' : Nat → Int} {M M' : Nat → Nat → Prop} {pt pt' : Nat → Nat} {kd kd' : Int → Int}
/-- every slot of one tree is a slot of the other -/
theorem same_slot (g : Gr E I) (h2 : Two E I) (D : Dec E I S h M pt kd) (D' : Dec E I S' h' M' pt' kd') {s : Nat} (hs : S s) : ∃ t, S' t ∧ ∀ e, E e → (M' t e ↔ M s e) := by
  obtain ⟨d0, d1, d2, d3, d4, d5, d6, d7, d8, d9⟩ := id D
  obtain ⟨b0, b1, b2, b3, b4, b5, b6, b7, b8, b9⟩ := id D'
  rcases d6 s hs with ⟨e, he, hm⟩ | ⟨hp, hne, hm, -⟩
  · obtain ⟨t, ht, mt⟩ := b9 e he
    exact ⟨t, ht, fun e' he' => (mt e' he').trans (hm e' he').symm⟩
  · have bg := joint_big D hs hp hm
    obtain ⟨t, ht, q | q⟩ := good_slot g D' (d4 s hs) bg (not_big D hs) (fun C hC hc => uncrossed g h2 D hs hC hc)
    · exact ⟨t, ht, q⟩
    · rcases b6 t ht with ⟨e, he, hm'⟩ | ⟨hp', -, hm', -⟩
      · obtain ⟨e1, e2, h1, h2', a1, a2, ne⟩ := not_big D hs
        exact absurd (((hm' e1 h1).mp ((q e1 h1).mpr a1)).trans ((hm' e2 h2').mp ((q e2 h2').mpr a2)).symm) ne
      · refine ⟨pt' t, hp', fun e he => (hm' e he).trans ⟨fun k => Classical.byContradiction fun z => k ((q e he).mpr z), fun k z => (q e he).mp z k⟩⟩
/-- two slots of a node in one tree are in one node of the other -/
theorem same_node (g : Gr E I) (h2 : Two E I) (D : Dec E I S h M pt kd) (D' : Dec E I S' h' M' pt' kd') {s t s' t' : Nat} (hs : S s) (ht : S t) (hs' : S' s') (ht' : S' t') (ms : ∀ e, E e → (M' s' e ↔ M s e)) (mt : ∀ e, E e → (M' t' e ↔ M t e)) (hh : h s = h t) : h' s' = h' t' := by
  refine Classical.byContradiction fun hne => ?_
  obtain ⟨d0, d1, d2, d3, d4, d5, d6, d7, d8, d9⟩ := id D
  obtain ⟨b0, b1, b2, b3, b4, b5, b6, b7, b8, b9⟩ := id D'
  obtain ⟨y, x, hy, hx, ey, ex, cov⟩ := b7 s' t' hs' ht' hne
  by_cases hst : s = t
  · subst hst
    -- one mask in two nodes
    obtain ⟨e, he, me⟩ := d3 s hs
    by_cases k1 : y = s'
    · subst k1
      by_cases k2 : x = t'
      · subst k2
        obtain ⟨e1, h1, m1⟩ : ∃ e, E e ∧ ¬ M s e := by obtain ⟨e1, -, h1, -, m1, -⟩ := not_big D hs; exact ⟨e1, h1, m1⟩
        rcases cov e1 h1 with z | z
        · exact m1 ((ms e1 h1).mp z)
        · exact m1 ((mt e1 h1).mp z)
      · obtain ⟨e1, e2, h1, h2', m1, m2, ne⟩ := not_big D hs
        -- the third slot beside x and t'
        have ⟨r, hr, er, rx, rt⟩ : ∃ r, S' r ∧ h' r = h' t' ∧ r ≠ x ∧ r ≠ t' := by
          obtain ⟨p, q, hp, hq, ep, eq, np, nq, npq⟩ := b5 t' ht'
          by_cases k : p = x
          · exact ⟨q, hq, eq, fun z => npq (k.trans z.symm), nq⟩
          · exact ⟨p, hp, ep, k, np⟩
        obtain ⟨e3, h3, m3⟩ := b3 r hr
        have n1 := b1 r t' hr ht' er rt e3 h3 m3
        have n2 := b1 r x hr hx (er.trans ex.symm) rx e3 h3 m3
        rcases cov e3 h3 with z | z
        · exact n1 ((mt e3 h3).mpr ((ms e3 h3).mp z))
        · exact n2 z
    · by_cases k2 : x = t'
      · subst k2
        have ⟨r, hr, er, ry, rs⟩ : ∃ r, S' r ∧ h' r = h' s' ∧ r ≠ y ∧ r ≠ s' := by
          obtain ⟨p, q, hp, hq, ep, eq, np, nq, npq⟩ := b5 s' hs'
          by_cases k : p = y
          · exact ⟨q, hq, eq, fun z => npq (k.trans z.symm), nq⟩
          · exact ⟨p, hp, ep, k, np⟩
        obtain ⟨e3, h3, m3⟩ := b3 r hr
        have n1 := b1 r s' hr hs' er rs e3 h3 m3
        have n2 := b1 r y hr hy (er.trans ey.symm) ry e3 h3 m3
        rcases cov e3 h3 with z | z
        · exact n2 z
        · exact n1 ((ms e3 h3).mpr ((mt e3 h3).mp z))
      · have n1 : ¬ M' y e := fun k => b1 y s' hy hs' ey k1 e he k ((ms e he).mpr me)
        have n2 : ¬ M' x e := fun k => b1 x t' hx ht' ex k2 e he k ((mt e he).mpr me)
        rcases cov e he with z | z
        · exact n1 z
        · exact n2 z
  · have dst := d1 s t hs ht hh hst
    obtain ⟨es, hes, mes⟩ := d3 s hs
    obtain ⟨et, het, met⟩ := d3 t ht
    by_cases k1 : y = s'
    · subst k1
      -- x holds all but s, so x is t'
      have k2 : x = t' := Classical.byContradiction fun k2 => by
        rcases cov et het with z | z
        · exact dst et het ((ms et het).mp z) met
        · exact b1 x t' hx ht' ex k2 et het z ((mt et het).mpr met)
      subst k2
      have ⟨r, hr, er, rs, rt⟩ : ∃ r, S r ∧ h r = h s ∧ r ≠ s ∧ r ≠ t := by
        obtain ⟨p, q, hp, hq, ep, eq, np, nq, npq⟩ := d5 s hs
        by_cases k : p = t
        · exact ⟨q, hq, eq, nq, fun z => npq (k.trans z.symm)⟩
        · exact ⟨p, hp, ep, np, k⟩
      obtain ⟨e3, h3, m3⟩ := d3 r hr
      rcases cov e3 h3 with z | z
      · exact d1 r s hr hs er rs e3 h3 m3 ((ms e3 h3).mp z)
      · exact d1 r t hr ht (er.trans hh) rt e3 h3 m3 ((mt e3 h3).mp z)
    · have xt : x ≠ t' := fun k2 => by
        subst k2
        rcases cov es hes with z | z
        · exact b1 y s' hy hs' ey k1 es hes z ((ms es hes).mpr mes)
        · exact dst es hes mes ((mt es hes).mp z)
      -- x holds s and more, and none of t
      obtain ⟨r, hr, mr⟩ := same_slot g h2 D' D hx
      have sr : ∀ e, E e → M s e → M r e := fun e he m => (mr e he).mpr ((cov e he).elim (fun z => absurd ((ms e he).mpr m) (fun w => b1 y s' hy hs' ey k1 e he z w)) id)
      have tr : ∀ e, E e → M t e → ¬ M r e := fun e he m k => b1 x t' hx ht' ex xt e he ((mr e he).mp k) ((mt e he).mpr m)
      have ⟨z1, hz1, ez1, ny1, ns1⟩ : ∃ r, S' r ∧ h' r = h' s' ∧ r ≠ y ∧ r ≠ s' := by
        obtain ⟨p, q, hp, hq, ep, eq, np, nq, npq⟩ := b5 s' hs'
        by_cases k : p = y
        · exact ⟨q, hq, eq, fun z => npq (k.trans z.symm), nq⟩
        · exact ⟨p, hp, ep, k, np⟩
      have ⟨z2, hz2, ez2, nx2, nt2⟩ : ∃ r, S' r ∧ h' r = h' t' ∧ r ≠ x ∧ r ≠ t' := by
        obtain ⟨p, q, hp, hq, ep, eq, np, nq, npq⟩ := b5 t' ht'
        by_cases k : p = x
        · exact ⟨q, hq, eq, fun z => npq (k.trans z.symm), nq⟩
        · exact ⟨p, hp, ep, k, np⟩
      obtain ⟨e1, h1, m1⟩ := b3 z1 hz1
      obtain ⟨e2, h2', m2⟩ := b3 z2 hz2
      have r1 : M r e1 := (mr e1 h1).mpr ((cov e1 h1).elim (fun z => absurd z (b1 z1 y hz1 hy (ez1.trans ey.symm) ny1 e1 h1 m1)) id)
      have s1 : ¬ M s e1 := fun k => b1 z1 s' hz1 hs' ez1 ns1 e1 h1 m1 ((ms e1 h1).mpr k)
      have r2 : ¬ M r e2 := fun k => b1 z2 x hz2 hx (ez2.trans ex.symm) nx2 e2 h2' m2 ((mr e2 h2').mp k)
      have t2 : ¬ M t e2 := fun k => b1 z2 t' hz2 ht' ez2 nt2 e2 h2' m2 ((mt e2 h2').mpr k)
      by_cases kr : h r = h s
      · have rs : r ≠ s := fun k => s1 (k ▸ r1)
        exact d1 r s hr hs kr rs es hes (sr es hes mes) mes
      · obtain ⟨q, p, hq, hp, eq, ep, cv⟩ := d7 r s hr hs kr
        by_cases kq : q = r
        · subst kq
          have pt2 : p = t := Classical.byContradiction fun k => by
            rcases cv et het with z | z
            · exact tr et het met z
            · exact d1 p t hp ht (ep.trans hh) k et het z met
          subst pt2
          rcases cv e2 h2' with z | z
          · exact r2 z
          · exact t2 z
        · have rp : ∀ e, E e → M r e → M p e := fun e he m => (cv e he).elim (fun z => absurd m (d1 q r hq hr eq kq e he z)) id
          have ps : p = s := Classical.byContradiction fun k => d1 p s hp hs ep k es hes (rp es hes (sr es hes mes)) mes
          subst ps
          exact s1 (rp e1 h1 r1)
/-- and the kinds are the same -/
theorem same_kind_le (g : Gr E I) (h2 : Two E I) (D : Dec E I S h M pt kd) (D' : Dec E I S' h' M' pt' kd') {s s' : Nat} (hs : S s) (hs' : S' s') (ms : ∀ e, E e → (M' s' e ↔ M s e)) : ¬ kd (h s) < kd' (h' s') := by
  intro hlt
  obtain ⟨d0, d1, d2, d3, d4, d5, d6, d7, d8, d9⟩ := id D
  obtain ⟨b0, b1, b2, b3, b4, b5, b6, b7, b8, b9⟩ := id D'
  -- slots of the second node, seen in the first
  have back : ∀ t', S' t' → h' t' = h' s' → ∃ t, S t ∧ h t = h s ∧ ∀ e, E e → (M t e ↔ M' t' e) := fun t' ht' et' => by
    obtain ⟨t, ht, mt⟩ := same_slot g h2 D' D ht'
    exact ⟨t, ht, same_node g h2 D' D ht' hs' ht hs mt (fun e he => (ms e he).symm) et', mt⟩
  rcases b8 s' hs' with ⟨k', -⟩ | ⟨k', hrg⟩ | ⟨k', hrg, q1, q2, q3, p1, p2, p3, o1, o2, o3, n1, n2, n3, n4, n5, n6⟩
  · rcases d8 s hs with ⟨k, -⟩ | ⟨k, -⟩ | ⟨k, -⟩ <;> omega
  · rcases d8 s hs with ⟨k, hb⟩ | ⟨k, -⟩ | ⟨k, -⟩
    · obtain ⟨t', r', ht', hr', et', er', nt, nr, ntr⟩ := b5 s' hs'
      obtain ⟨t, ht, et, mt⟩ := back t' ht' et'
      obtain ⟨r, hr, er, mr⟩ := back r' hr' er'
      obtain ⟨x, hx, bx⟩ := cnt_some (n := 40) (P := bdy E I (M s)) (by have := d4 s hs; unfold fn at this; omega)
      exact hrg x s' t' r' hs' ht' hr' rfl et' er' (fun k => nt k.symm) (fun k => nr k.symm) ntr ((bdy_congr ms x).mpr bx) ((bdy_congr mt x).mp ((hb t ht et x).mp bx)) ((bdy_congr mr x).mp ((hb r hr er x).mp bx))
    · omega
    · omega
  · -- a pair of the rigid node
    have fin : ∀ t', S' t' → h' t' = h' s' → t' ≠ s' → fn E I (fun e => M' s' e ∨ M' t' e) ≤ 2 → False := fun t' ht' et' nt' hf => by
      have ⟨a, b, ha, hb, ea, eb, na, nb, nas, nbs, nab⟩ : ∃ a b, S' a ∧ S' b ∧ h' a = h' s' ∧ h' b = h' s' ∧ a ≠ t' ∧ b ≠ t' ∧ a ≠ s' ∧ b ≠ s' ∧ a ≠ b := by
        by_cases k1 : q1 = t'
        · exact ⟨q2, q3, p2, p3, o2, o3, fun z => n4 (k1.trans z.symm), fun z => n5 (k1.trans z.symm), n2, n3, n6⟩
        · by_cases k2 : q2 = t'
          · exact ⟨q1, q3, p1, p3, o1, o3, k1, fun z => n6 (k2.trans z.symm), n1, n3, n5⟩
          · exact ⟨q1, q2, p1, p2, o1, o2, k1, k2, n1, n2, n4⟩
      refine hrg (fun t => t = s' ∨ t = t') ?_ s' t' a b hs' ht' ha hb rfl et' ea eb (fun k => nt' k.symm) nab (Or.inl rfl) (Or.inr rfl) (fun k => k.elim nas na) (fun k => k.elim nbs nb)
      rw [fn_congr (Y := fun e => M' s' e ∨ M' t' e) (fun e _ => ?_)]
      · exact hf
      · constructor
        · rintro ⟨t, -, -, rfl | rfl, m⟩
          · exact Or.inl m
          · exact Or.inr m
        · rintro (m | m)
          · exact ⟨s', hs', rfl, Or.inl rfl, m⟩
          · exact ⟨t', ht', et', Or.inr rfl, m⟩
    rcases d8 s hs with ⟨k, -⟩ | ⟨k, -⟩ | ⟨k, -⟩
    · obtain ⟨t, ht, et, mt⟩ := back q1 p1 o1
      refine fin q1 p1 o1 n1 ?_
      have := bond_two D hs k hs ht rfl et
      rw [fn_congr (Y := fun e => M s e ∨ M t e) (fun e he => or_congr (ms e he) (mt e he).symm)]
      exact this
    · -- a neighbour in the ring
      obtain ⟨x, hx, bx⟩ := cnt_some (n := 40) (P := bdy E I (M s)) (by have := d4 s hs; unfold fn at this; omega)
      obtain ⟨⟨e, he, m, hi⟩, ⟨e', he', m', hi'⟩⟩ := id bx
      obtain ⟨t', ht', et', mt'⟩ := b2 s' hs' e' he'
      have nt' : t' ≠ s' := fun k => m' ((ms e' he').mp (k ▸ mt'))
      obtain ⟨t, ht, et, mt⟩ := back t' ht' et'
      have nst : s ≠ t := fun k => m' (by rw [k]; exact (mt e' he').mpr mt')
      refine fin t' ht' et' nt' ?_
      have := ring_two g D hs k hs ht rfl et nst bx ⟨⟨e', he', (mt e' he').mpr mt', hi'⟩, ⟨e, he, d1 s t hs ht et.symm nst e he m, hi⟩⟩
      rw [fn_congr (Y := fun e => M s e ∨ M t e) (fun e he => or_congr (ms e he) (mt e he).symm)]
      exact this
    · omega
theorem same_kind (g : Gr E I) (h2 : Two E I) (D : Dec E I S h M pt kd) (D' : Dec E I S' h' M' pt' kd') {s s' : Nat} (hs : S s) (hs' : S' s') (ms : ∀ e, E e → (M' s' e ↔ M s e)) : kd (h s) = kd' (h' s') := by
  have a := same_kind_le g h2 D D' hs hs' ms
  have b := same_kind_le g h2 D' D hs' hs (fun e he => (ms e he).symm)
  omega
end
