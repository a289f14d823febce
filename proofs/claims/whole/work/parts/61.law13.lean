/-! PURE PART XXXV: the law's case of coming apart -/
theorem in_both {u v a b : Nat} (huv : u ≠ v) (h1 : u = a ∨ u = b) (h2 : v = a ∨ v = b) : (u = a ∧ v = b) ∨ (u = b ∧ v = a) := by omega
section
variable {fe se th ends : Nat → Int32} {mk : Nat} {kn sn an ln gn : Nat → Int32} {iN : Nat → Int64} {oe : Nat → Int32} {nc built tree items : Int32} {one two what piece kinds : Nat → Int32} {nodes : Int32} {po nu up ju pa : Nat → Int32} {L : Nat} {xs : Nat → Int32} {i thr : Int32} {o : Nat → Int64} {near twice : Nat → Int64} {present : Int64} {gr : Nat → Int32}
theorem sp_refApart {u v : Nat} {post : Int32 → Int32 → (Nat → Int32) → Prop} (G : GC fe se mk) (R : RG fe se ends mk) (F : Fit (Ed mk th) (In fe se)) (hu : u < 40) (hv : v < 40)
    (h1 : (u ≠ v ∧ (∃ e, Ed mk th e ∧ In fe se e u) ∧ (∃ e, Ed mk th e ∧ In fe se e v) ∧ (∀ e, Ed mk th e → In fe se e u → ¬ In fe se e v)) → Apt (Ed mk th) (In fe se) u v → ∀ gr, post 1 0 gr)
    (h0 : ¬ ((u ≠ v ∧ (∃ e, Ed mk th e ∧ In fe se e u) ∧ (∃ e, Ed mk th e ∧ In fe se e v) ∧ (∀ e, Ed mk th e → In fe se e u → ¬ In fe se e v)) ∧ Apt (Ed mk th) (In fe se) u v) → ∀ gr, post 0 0 gr) : wp_Model_comeApart thr (nI mk) ends th 1 gr (nI u) (nI v) post := by
  have l := G.1
  unfold wp_Model_comeApart
  refine ⟨fun _ => ⟨fun z => absurd z (by decide), fun _ => mp_ok hu ⟨fun z => absurd z (by decide), fun _ => mp_ok hv ⟨fun _ => ref_00 ⟨fun _ => ?_, fun z => absurd rfl z⟩, fun z => absurd z (by decide)⟩⟩⟩, fun z => absurd z (by decide)⟩
  have main : ∀ z : Int32, (z = 0 ∧ ¬ (u ≠ v ∧ (∃ e, Ed mk th e ∧ In fe se e u) ∧ ∃ e, Ed mk th e ∧ In fe se e v)) ∨ (z = 1 ∧ u ≠ v ∧ (∃ e, Ed mk th e ∧ In fe se e u) ∧ ∃ e, Ed mk th e ∧ In fe se e v) → ∃ n, sL2 (fun (K_18 : Int32 → Int32 → Prop) (i3_16 : Int32) (i4_17 : Int32) => (nI mk ≤ i4_17 → ∃ n, sL2 (fun (K_23 : Int32 → (Nat → Int32) → Prop) (i4_21 : Int32) (group_22 : Nat → Int32) => (40 ≤ i4_21 → post 0 0 group_22) ∧ (¬ 40 ≤ i4_21 → (i3_16 = 0 → post 0 0 group_22) ∧ (¬ i3_16 = 0 → ∃ n, sL2 (fun (K_28 : Int32 → (Nat → Int32) → Prop) (i5_26 : Int32) (group_27 : Nat → Int32) => (40 ≤ i5_26 → K_23 (i4_21 + 1) group_27) ∧ (¬ 40 ≤ i5_26 → (i4_21 = nI u → K_28 (i5_26 + 1) group_27) ∧ (¬ i4_21 = nI u → (i4_21 = nI v → K_28 (i5_26 + 1) group_27) ∧ (¬ i4_21 = nI v → (i5_26 = nI u → K_28 (i5_26 + 1) group_27) ∧ (¬ i5_26 = nI u → (i5_26 = nI v → K_28 (i5_26 + 1) group_27) ∧ (¬ i5_26 = nI v → wp_Model_join (nI mk) ends th group_27 i4_21 i5_26 (fun group_31 => vp_in (nI u) 40 ∧ vp_in (nI v) 40 ∧ ((group_31 (ix (nI u))) = (group_31 (ix (nI v))) → K_28 (i5_26 + 1) group_31) ∧ (¬ (group_31 (ix (nI u))) = (group_31 (ix (nI v))) → post 1 0 group_31)))))))) n i4_21 group_22))) n 0 gr) ∧ (¬ nI mk ≤ i4_17 → vp_in (2 * i4_17) 200 ∧ vp_in ((2 * i4_17) + 1) 200 ∧ (i3_16 = 0 → K_18 0 (i4_17 + 1)) ∧ (¬ i3_16 = 0 → vp_in i4_17 100 ∧ ((th (ix i4_17)) = 0 → K_18 1 (i4_17 + 1)) ∧ (¬ (th (ix i4_17)) = 0 → (¬ (ends (ix (2 * i4_17))) = nI u → (¬ (ends (ix (2 * i4_17))) = nI v → K_18 1 (i4_17 + 1)) ∧ ((ends (ix (2 * i4_17))) = nI v → ((ends (ix ((2 * i4_17) + 1))) = nI u → K_18 0 (i4_17 + 1)) ∧ (¬ (ends (ix ((2 * i4_17) + 1))) = nI u → K_18 1 (i4_17 + 1)))) ∧ ((ends (ix (2 * i4_17))) = nI u → ((ends (ix ((2 * i4_17) + 1))) = nI v → K_18 0 (i4_17 + 1)) ∧ (¬ (ends (ix ((2 * i4_17) + 1))) = nI v → (¬ (ends (ix (2 * i4_17))) = nI v → K_18 1 (i4_17 + 1)) ∧ ((ends (ix (2 * i4_17))) = nI v → ((ends (ix ((2 * i4_17) + 1))) = nI u → K_18 0 (i4_17 + 1)) ∧ (¬ (ends (ix ((2 * i4_17) + 1))) = nI u → K_18 1 (i4_17 + 1))))))))) n z 0 := by
    intro z hz
    refine for2b mk (fun k z => (z = 0 ∧ ¬ (u ≠ v ∧ (∃ e, Ed mk th e ∧ In fe se e u) ∧ (∃ e, Ed mk th e ∧ In fe se e v) ∧ (∀ e, Ed mk th e → In fe se e u → ¬ In fe se e v))) ∨ (z = 1 ∧ (u ≠ v ∧ (∃ e, Ed mk th e ∧ In fe se e u) ∧ (∃ e, Ed mk th e ∧ In fe se e v)) ∧ ∀ e, e < k → th e ≠ 0 → In fe se e u → ¬ In fe se e v)) (by omega) 0 z (by omega) (by
      rcases hz with ⟨a, b⟩ | ⟨a, b⟩
      · exact Or.inl ⟨a, fun k => b ⟨k.1, k.2.1, k.2.2.1⟩⟩
      · exact Or.inr ⟨a, b, fun e k => absurd k (by omega)⟩) (fun K k z hk hJ nx => ⟨fun q => ?_, fun q => ?_⟩)
    · rw [zI_le (by omega) (by omega)] at q
      have hz2 : (z = 0 ∧ ¬ (u ≠ v ∧ (∃ e, Ed mk th e ∧ In fe se e u) ∧ (∃ e, Ed mk th e ∧ In fe se e v) ∧ (∀ e, Ed mk th e → In fe se e u → ¬ In fe se e v))) ∨ (z = 1 ∧ (u ≠ v ∧ (∃ e, Ed mk th e ∧ In fe se e u) ∧ (∃ e, Ed mk th e ∧ In fe se e v) ∧ (∀ e, Ed mk th e → In fe se e u → ¬ In fe se e v))) := hJ.imp id fun ⟨a, b, d⟩ => ⟨a, b.1, b.2.1, b.2.2, fun e he => d e (by have := he.1; omega) he.2⟩
      clear hJ nx hz
      refine for2 40 (fun p _ => ∀ p' q', p' < p → p' ≤ q' → q' < 40 → p' ≠ u → p' ≠ v → q' ≠ u → q' ≠ v → ∃ gr, Lb (Rl (Ed mk th) (en fe) (en se) p' q') gr ∧ gr u = gr v) (by omega) 0 gr (by omega) (fun p' q' k => absurd k (by omega)) (fun K2 p gr hp hJ nx => ⟨fun q2 => ?_, fun q2 => ?_⟩)
      · rw [L40, zI_le (by omega) (by omega)] at q2
        refine h0 (fun ⟨cn, A⟩ => ?_) gr
        obtain ⟨p', q', pq, hq', n1, n2, n3, n4, no⟩ := apt_ex G F cn.2.1 cn.2.2.1 hu hv A
        obtain ⟨gr', L', e⟩ := hJ p' q' (by omega) (by omega) hq' n1 n2 n3 n4
        exact no gr' L' e
      · rw [L40, zI_le (by omega) (by omega)] at q2
        rcases hz2 with ⟨rfl, nc⟩ | ⟨rfl, cn⟩
        · exact ⟨fun _ => h0 (fun k => nc k.1) gr, fun y => absurd rfl y⟩
        · refine ⟨fun y => absurd y (by decide), fun _ => ?_⟩
          rw [zI_succ]
          refine for2 40 (fun q _ => p ≤ q ∧ ∀ q', p ≤ q' → q' < q → p ≠ u → p ≠ v → q' ≠ u → q' ≠ v → ∃ gr, Lb (Rl (Ed mk th) (en fe) (en se) p q') gr ∧ gr u = gr v) (by omega) p gr (by omega) ⟨Nat.le_refl _, fun q' a b => absurd a (by omega)⟩ (fun K3 q gr hq hJ3 nx3 => ⟨fun q3 => ?_, fun q3 => ?_⟩)
          · rw [L40, zI_le (by omega) (by omega)] at q3
            refine nx (by omega) _ fun p' q' h1' h2' h3' n1 n2 n3 n4 => ?_
            by_cases e : p' = p
            · subst e; exact hJ3.2 q' h2' (by omega) n1 n2 n3 n4
            · exact hJ p' q' (by omega) h2' h3' n1 n2 n3 n4
          · rw [L40, zI_le (by omega) (by omega)] at q3
            rw [zI_succ, zI_eq (j := p) (k := u) (by omega) (by omega), zI_eq (j := p) (k := v) (by omega) (by omega), zI_eq (j := q) (k := u) (by omega) (by omega), zI_eq (j := q) (k := v) (by omega) (by omega)]
            have skip : ∀ gr, (p ≠ u → p ≠ v → q ≠ u → q ≠ v → ∃ gr, Lb (Rl (Ed mk th) (en fe) (en se) p q) gr ∧ gr u = gr v) → K3 (nI (q + 1)) gr := fun gr y => nx3 (by omega) _ ⟨by have := hJ3.1; omega, fun q' a b n1 n2 n3 n4 => by
              by_cases e : q' = q
              · subst e; exact y n1 n2 n3 n4
              · exact hJ3.2 q' a (by omega) n1 n2 n3 n4⟩
            refine ⟨fun y => skip _ fun n => absurd y n, fun y1 => ⟨fun y => skip _ fun _ n => absurd y n, fun y2 => ⟨fun y => skip _ fun _ _ n => absurd y n, fun y3 => ⟨fun y => skip _ fun _ _ _ n => absurd y n, fun y4 => ?_⟩⟩⟩⟩
            refine sp_join G R (fun y hy => zI_eq (by omega) (by omega)) (fun y hy => zI_eq (by omega) (by omega)) fun gr L => ?_
            rw [ix_nI (k := u) (by omega), ix_nI (k := v) (by omega)]
            exact ⟨(in_nI (by omega)).mpr hu, (in_nI (by omega)).mpr hv, fun e => skip _ fun _ _ _ _ => ⟨gr, L, e⟩, fun e => h1 cn (apt_iff G F hu hv y1 y2 y3 y4 L e) gr⟩
    · rw [zI_le (by omega) (by omega)] at q
      obtain ⟨a1, a2, d1, d2, d3⟩ := G.2 k (by omega)
      obtain ⟨r1, r2⟩ := R k (by omega)
      simp only [zI_dbl, zI_succ]
      rw [ix_nI (k := k) (by omega), ix_nI (k := 2 * k) (by omega), ix_nI (k := 2 * k + 1) (by omega), r1, r2, a1, a2, zI_eq (j := en fe k) (k := u) (by omega) (by omega), zI_eq (j := en fe k) (k := v) (by omega) (by omega), zI_eq (j := en se k) (k := u) (by omega) (by omega), zI_eq (j := en se k) (k := v) (by omega) (by omega)]
      refine ⟨(in_nI (by omega)).mpr (by omega), (in_nI (by omega)).mpr (by omega), ?_⟩
      rcases hJ with ⟨rfl, nc⟩ | ⟨rfl, cn, hJ⟩
      · exact ⟨fun _ => nx (by omega) _ (Or.inl ⟨rfl, nc⟩), fun y => absurd rfl y⟩
      · refine ⟨fun y => absurd y (by decide), fun _ => ⟨(in_nI (by omega)).mpr (by omega), fun y => nx (by omega) _ (Or.inr ⟨rfl, cn, fun e he t => ?_⟩), fun y => ?_⟩⟩
        · have : e ≠ k := fun s => t (s ▸ y)
          exact hJ e (by omega) t
        · have yes : In fe se k u → In fe se k v → K 0 (nI (k + 1)) := fun a b => nx (by omega) _ (Or.inl ⟨rfl, fun n => n.2.2.2 k ⟨by omega, y⟩ a b⟩)
          have no : ¬ (In fe se k u ∧ In fe se k v) → K 1 (nI (k + 1)) := fun n => nx (by omega) _ (Or.inr ⟨rfl, cn, fun e he t a b => by
            by_cases s : e = k
            · subst s; exact n ⟨a, b⟩
            · exact hJ e (by omega) t a b⟩)
          have uv := cn.1
          unfold In at yes no
          exact ⟨fun t1 => ⟨fun t2 => no (by omega), fun t2 => ⟨fun t3 => yes (by omega) (by omega), fun t3 => no (by omega)⟩⟩, fun t1 => ⟨fun t2 => yes (by omega) (by omega), fun t2 => ⟨fun t3 => no (by omega), fun t3 => ⟨fun t4 => yes (by omega) (by omega), fun t4 => no (by omega)⟩⟩⟩⟩
  refine ⟨fun e => main 0 (Or.inl ⟨rfl, fun n => n.1 ((zI_eq (by omega) (by omega)).mp e)⟩), fun e => ?_⟩
  rw [zI_eq (by omega) (by omega)] at e
  exact sp_isUsed G R (by omega) (fun a => ⟨fun y => absurd y (by decide), fun _ => sp_isUsed G R (by omega) (fun b => ⟨fun y => absurd y (by decide), fun _ => main 1 (Or.inr ⟨rfl, e, a, b⟩)⟩) (fun b => ⟨fun _ => main 0 (Or.inl ⟨rfl, fun n => b n.2.2⟩), fun y => absurd rfl y⟩)⟩) (fun a => ⟨fun _ => main 0 (Or.inl ⟨rfl, fun n => a n.2.1⟩), fun y => absurd rfl y⟩)
theorem law13 {K : Int32 → (Nat → Int32) → (Nat → Int64) → Prop} (hs : (built = 0 ∧ tree = 0) ∨ (built = 1 ∧ tree = 1 ∧ Fit (Ed mk th) (In fe se) ∧ Lk (Ed mk th) (en fe) (en se) near twice present ∧ ∃ c sl' ct', nc = nI c ∧ TR (Ed mk th) (In fe se) kn sn an ln gn iN oe one two what piece kinds po nu up ju pa c sl' ct')) (G : GC fe se mk) (R : RG fe se ends mk) (hi : vp_in (i + 1) L) (hi2 : vp_in (i + 2) L) (hK : ∀ t g o, K t g o) : wp_Law_c13 L xs i near present kn iN nc built thr (nI mk) ends th tree gr o K := by
  refine ⟨hi, hi2, ?_⟩
  have x0 : vp_in 0 1 := (in_nI (k := 0) (by omega)).mpr (by omega)
  rcases hs with ⟨rfl, rfl⟩ | ⟨rfl, rfl, F, Lg, c, sl', ct', rfl, T⟩
  · refine ⟨fun z => absurd rfl z, fun _ => Or.inl ⟨rfl, hi, hi2, ?_⟩⟩
    exact ⟨fun z => absurd rfl z, fun _ => ⟨fun _ => ref_10 ⟨fun z => absurd z (by decide), fun _ => law_ex (by decide) (hK _ _ _)⟩, fun z => absurd rfl z⟩⟩
  · have c98 := T.c98
    have g := G.gr (th := th)
    have h2 := F.two g
    refine ⟨fun _ => ?_, fun z => absurd z (by decide)⟩
    generalize xs (ix (i + 1)) = x1
    generalize xs (ix (i + 2)) = x2
    have rbad : (x1 < 0 ∨ (40 : Int32) ≤ x1) ∨ (x2 < 0 ∨ (40 : Int32) ≤ x2) → vp_in (i + 1) L ∧ vp_in (i + 2) L ∧ wp_Model_comeApart thr (nI mk) ends th 1 gr x1 x2 (fun r_5 m_thrown_3 m_group_4 => wp_Model_thrown m_thrown_3 (fun r_6 => (r_6 = 2 → (¬ (2 : Int32) = 0 → K m_thrown_3 m_group_4 o) ∧ ((2 : Int32) = 0 → vp_in 0 1 ∧ jn1 (fun (z_7 : Int64) => ((lg_cmp (o (ix 0)) z_7) = 0 → K m_thrown_3 m_group_4 o) ∧ (¬ (lg_cmp (o (ix 0)) z_7) = 0 → False)) (fun (J_8 : Int64 → Prop) => (r_5 = 0 → J_8 0) ∧ (¬ r_5 = 0 → J_8 1)))) ∧ (¬ r_6 = 2 → False))) := fun b => by
      refine ⟨hi, hi2, fun _ => ⟨fun z => absurd z (by decide), fun _ => ?_⟩, fun z => absurd z (by decide)⟩
      rcases pt_cases x1 with p1 | ⟨u, hu, rfl⟩
      · exact mp_bad p1 ⟨fun _ => ref_01 ⟨fun z => absurd z (by decide), fun _ => law_ex (by decide) (hK _ _ _)⟩, fun z => absurd rfl z⟩
      · refine mp_ok hu ⟨fun z => absurd z (by decide), fun _ => ?_⟩
        have b2 : x2 < 0 ∨ (40 : Int32) ≤ x2 := b.resolve_left (fun z => by
          rcases z with z | z
          · exact zI_nn (by omega) z
          · rw [L40, zI_le (by omega) (by omega)] at z; omega)
        exact mp_bad b2 ⟨fun z => absurd rfl z, fun _ => ref_01 ⟨fun z => absurd z (by decide), fun _ => law_ex (by decide) (hK _ _ _)⟩⟩
    rcases pt_cases x1 with p1 | ⟨u, hu, rfl⟩
    · exact cp_bad p1 (Or.inr ⟨rfl, rbad (Or.inl p1)⟩)
    rcases pt_cases x2 with p2 | ⟨v, hv, rfl⟩
    · exact cp_ok hu (cp_bad p2 (Or.inr ⟨rfl, rbad (Or.inr p2)⟩))
    have f1 : (u ≠ v ∧ (∃ e, Ed mk th e ∧ In fe se e u) ∧ (∃ e, Ed mk th e ∧ In fe se e v) ∧ (∀ e, Ed mk th e → In fe se e u → ¬ In fe se e v)) ∧ Apt (Ed mk th) (In fe se) u v → ∀ o1 : Nat → Int64, o1 = vp_updL o (ix 0) 1 → vp_in (i + 1) L ∧ vp_in (i + 2) L ∧ wp_Model_comeApart thr (nI mk) ends th 1 gr (nI u) (nI v) (fun r_5 m_thrown_3 m_group_4 => wp_Model_thrown m_thrown_3 (fun r_6 => (r_6 = 0 → (¬ (0 : Int32) = 0 → K m_thrown_3 m_group_4 o1) ∧ ((0 : Int32) = 0 → vp_in 0 1 ∧ jn1 (fun (z_7 : Int64) => ((lg_cmp (o1 (ix 0)) z_7) = 0 → K m_thrown_3 m_group_4 o1) ∧ (¬ (lg_cmp (o1 (ix 0)) z_7) = 0 → False)) (fun (J_8 : Int64 → Prop) => (r_5 = 0 → J_8 0) ∧ (¬ r_5 = 0 → J_8 1)))) ∧ (¬ r_6 = 0 → False))) := fun y o1 eo => ⟨hi, hi2, sp_refApart G R F hu hv (fun _ _ _ => law_b1 eo (hK _ _ _)) (fun n => absurd y n)⟩
    have f0 : ¬ ((u ≠ v ∧ (∃ e, Ed mk th e ∧ In fe se e u) ∧ (∃ e, Ed mk th e ∧ In fe se e v) ∧ (∀ e, Ed mk th e → In fe se e u → ¬ In fe se e v)) ∧ Apt (Ed mk th) (In fe se) u v) → ∀ o1 : Nat → Int64, o1 = vp_updL o (ix 0) 0 → vp_in (i + 1) L ∧ vp_in (i + 2) L ∧ wp_Model_comeApart thr (nI mk) ends th 1 gr (nI u) (nI v) (fun r_5 m_thrown_3 m_group_4 => wp_Model_thrown m_thrown_3 (fun r_6 => (r_6 = 0 → (¬ (0 : Int32) = 0 → K m_thrown_3 m_group_4 o1) ∧ ((0 : Int32) = 0 → vp_in 0 1 ∧ jn1 (fun (z_7 : Int64) => ((lg_cmp (o1 (ix 0)) z_7) = 0 → K m_thrown_3 m_group_4 o1) ∧ (¬ (lg_cmp (o1 (ix 0)) z_7) = 0 → False)) (fun (J_8 : Int64 → Prop) => (r_5 = 0 → J_8 0) ∧ (¬ r_5 = 0 → J_8 1)))) ∧ (¬ r_6 = 0 → False))) := fun y o1 eo => ⟨hi, hi2, sp_refApart G R F hu hv (fun a b => absurd ⟨a, b⟩ y) (fun _ _ => law_b0 eo (hK _ _ _))⟩
    generalize hQ : (fun (r_2 : Int32) (o_1 : Nat → Int64) => vp_in (i + 1) L ∧ vp_in (i + 2) L ∧ wp_Model_comeApart thr (nI mk) ends th 1 gr (nI u) (nI v) (fun r_5 m_thrown_3 m_group_4 => wp_Model_thrown m_thrown_3 (fun r_6 => (r_6 = r_2 → (¬ r_2 = 0 → K m_thrown_3 m_group_4 o_1) ∧ (r_2 = 0 → vp_in 0 1 ∧ jn1 (fun (z_7 : Int64) => ((lg_cmp (o_1 (ix 0)) z_7) = 0 → K m_thrown_3 m_group_4 o_1) ∧ (¬ (lg_cmp (o_1 (ix 0)) z_7) = 0 → False)) (fun (J_8 : Int64 → Prop) => (r_5 = 0 → J_8 0) ∧ (¬ r_5 = 0 → J_8 1)))) ∧ (¬ r_6 = r_2 → False)))) = Q
    have g1 : (u ≠ v ∧ (∃ e, Ed mk th e ∧ In fe se e u) ∧ (∃ e, Ed mk th e ∧ In fe se e v) ∧ (∀ e, Ed mk th e → In fe se e u → ¬ In fe se e v)) ∧ Apt (Ed mk th) (In fe se) u v → ((1 : Int32) = 0 → vp_in 0 1 ∧ ∀ p3_4 : Nat → Int64, p3_4 = vp_updL o (ix 0) 0 → Q 0 p3_4) ∧ (¬ (1 : Int32) = 0 → vp_in 0 1 ∧ ∀ p3_6 : Nat → Int64, p3_6 = vp_updL o (ix 0) 1 → Q 0 p3_6) := fun y => ⟨fun z => absurd z (by decide), fun _ => ⟨x0, fun o1 eo => by rw [← hQ]; exact f1 y o1 eo⟩⟩
    have g0 : ¬ ((u ≠ v ∧ (∃ e, Ed mk th e ∧ In fe se e u) ∧ (∃ e, Ed mk th e ∧ In fe se e v) ∧ (∀ e, Ed mk th e → In fe se e u → ¬ In fe se e v)) ∧ Apt (Ed mk th) (In fe se) u v) → ((0 : Int32) = 0 → vp_in 0 1 ∧ ∀ p3_4 : Nat → Int64, p3_4 = vp_updL o (ix 0) 0 → Q 0 p3_4) ∧ (¬ (0 : Int32) = 0 → vp_in 0 1 ∧ ∀ p3_6 : Nat → Int64, p3_6 = vp_updL o (ix 0) 1 → Q 0 p3_6) := fun y => ⟨fun _ => ⟨x0, fun o1 eo => by rw [← hQ]; exact f0 y o1 eo⟩, fun z => absurd rfl z⟩
    refine cp_ok hu (cp_ok hv ⟨fun e => g0 (fun k => k.1.1 ((zI_eq (by omega) (by omega)).mp e)), fun e => ?_⟩)
    rw [zI_eq (by omega) (by omega)] at e
    refine sp_holds hu (fun bu => ⟨fun z => absurd z (by decide), fun _ => ?_⟩) (fun bu => ⟨fun _ => g0 (fun k => bu ((Lg.1 u).mpr k.1.2.1)), fun z => absurd rfl z⟩)
    refine sp_holds hv (fun bv => ⟨fun z => absurd z (by decide), fun _ => ⟨(in_nI (by omega)).mpr hu, ?_⟩⟩) (fun bv => ⟨fun _ => g0 (fun k => bv ((Lg.1 v).mpr k.1.2.2.1)), fun z => absurd rfl z⟩)
    rw [ix_nI (k := u) (by omega)]
    have nr := Lg.2.1 u v hu
    refine sp_holds hv (fun nn => ⟨fun z => absurd z (by decide), fun _ => g0 (fun k => ?_)⟩) (fun nn => ⟨fun _ => ?_, fun z => absurd rfl z⟩)
    · obtain ⟨s, hs, ks⟩ := nr.mp nn
      exact k.1.2.2.2 s hs (by unfold In; omega) (by unfold In; omega)
    · have cn : u ≠ v ∧ (∃ e, Ed mk th e ∧ In fe se e u) ∧ (∃ e, Ed mk th e ∧ In fe se e v) ∧ (∀ e, Ed mk th e → In fe se e u → ¬ In fe se e v) := ⟨e, (Lg.1 u).mp bu, (Lg.1 v).mp bv, fun s hs a b => nn (nr.mpr ⟨s, hs, in_both e a b⟩)⟩
      have tie := T.tie g h2 e cn.2.1 cn.2.2.1 cn.2.2.2
      exact sp_tie c98.1 hu hv (fun y => ⟨fun _ => g0 (fun k => tie.mp y k.2), fun z => absurd z (by decide)⟩) (fun y => ⟨fun z => absurd rfl z, fun _ => g1 ⟨cn, Classical.byContradiction fun n => y (tie.mpr n)⟩⟩)
end
