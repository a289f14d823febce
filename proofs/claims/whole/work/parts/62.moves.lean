/-! PURE PART XXXVI: the law's cases that change something; what always holds -/
/-- class and reference side by side -/
def GS (fe se th : Nat → Int32) (near twice : Nat → Int64) (present : Int64) (sa kn sn an ln gn : Nat → Int32) (iN : Nat → Int64) (oe : Nat → Int32) (nc made alive built mmade : Int32) (ends mthere : Nat → Int32) (tree items : Int32) (one two what piece kinds : Nat → Int32) (nodes : Int32) (po nu up ju pa : Nat → Int32) : Prop :=
  ∃ mk, made = nI mk ∧ mmade = nI mk ∧ GC fe se mk ∧ RG fe se ends mk ∧ mthere = th ∧ alive = nI (cnt 100 (Ed mk th)) ∧ sa 0 = nI 0 ∧
    ((built = 0 ∧ tree = 0) ∨ (built = 1 ∧ tree = 1 ∧ Fit (Ed mk th) (In fe se) ∧ Lk (Ed mk th) (en fe) (en se) near twice present ∧ ∃ c sl' ct', nc = nI c ∧ nodes = nI c ∧ items = nI sl' ∧ TR (Ed mk th) (In fe se) kn sn an ln gn iN oe one two what piece kinds po nu up ju pa c sl' ct'))
section
variable {fe se th ends : Nat → Int32} {mk : Nat}
theorem sp_refBuild {kn sn an ln gn : Nat → Int32} {iN : Nat → Int64} {oe pfe pse ho kq : Nat → Int32} {sl ct : Nat} {M : Nat → Nat → Prop} {e0 r c : Nat} {P T par lst wt num : Nat → Nat} {thrown tree its ps js nds : Int32} {one two what piece kinds gr many pieceOf numberOf ups jointUp partner beyonds gone : Nat → Int32} {post : Int32 → Int32 → Int32 → Int32 → (Nat → Int32) → (Nat → Int32) → (Nat → Int32) → (Nat → Int32) → Int32 → Int32 → (Nat → Int32) → (Nat → Int32) → (Nat → Int32) → Int32 → (Nat → Int32) → (Nat → Int32) → (Nat → Int32) → (Nat → Int32) → (Nat → Int32) → (Nat → Int32) → (Nat → Int32) → Prop} (G : GC fe se mk) (R : RG fe se ends mk) (F : Fit (Ed mk th) (In fe se))
    (Rc : CR (Ed mk th) (In fe se) pfe pse ho kq sl ct M e0 r c P T par lst wt num) (N : NA pfe pse ho kq sl c P T par num kn sn an ln gn iN oe)
    (h : ∀ one two what piece kinds gr many po nu up ju pa be go sl' ct', TR (Ed mk th) (In fe se) kn sn an ln gn iN oe one two what piece kinds po nu up ju pa c sl' ct' → post (nI c) 0 1 (nI sl') one two what piece (nI ct') (nI (ct' - 1)) kinds gr many (nI c) po nu up ju pa be go) :
    wp_Model_build thrown (nI mk) ends th tree its one two what piece ps js kinds gr many nds pieceOf numberOf ups jointUp partner beyonds gone post := by
  have g := G.gr (th := th)
  have h2 := F.two g
  obtain ⟨Fc, h0, l0, hr, rc, O, h4, h5, h6⟩ := id Rc
  have c98 := Fc.ct98
  refine sp_modelTree G R (fun _ b w one two what piece kinds gr many sl' ct' M' F' W hb hw => ?_) (fun n => absurd F n)
  have c98' := F'.ct98
  refine sp_lookBeyond F' g W fun pa be hpa L => ⟨(in_nI (k := 0) (by omega)).mpr (by omega), ?_⟩
  -- the first item is the least edge
  have ce0 : cnt e0 (Ed mk th) = 0 := cnt_none fun x hx => l0 x hx
  have w0 : w 0 = e0 := by rw [← ce0]; exact hw e0 h0
  obtain ⟨s, sb, ls, es⟩ := F'.1.2.2.2.2.2.2.2.2.2 e0 h0
  have s0 : s = 0 := by
    have : s < cnt 100 (Ed mk th) := by omega
    obtain ⟨e, -, he, ee⟩ := cnt_nth this
    have : w s = e := by rw [← ee]; exact hw e he
    have : e = e0 := this.symm.trans es
    rw [← ee, this, ce0]
  subst s0
  obtain ⟨q0, hq0, t0⟩ := F'.pc ls
  have e100 : e0 < 100 := g.1 e0 h0
  have m0 : Mt (Ed mk th) M' M 0 e0 := fun e he => by
    rw [(F'.edge (by omega) t0 sb).2 e he, (Fc.edge (by omega) hr e100).2 e he, w0]
  have x0 : ix 0 = 0 := ix_nI (k := 0) (by omega)
  rw [x0, t0.2]
  exact sp_number g h2 Rc F' W hpa L hq0 t0 m0 fun po nu up ju go V => h _ _ _ _ _ _ _ _ _ _ _ _ _ _ sl' ct' ⟨pfe, pse, ho, kq, sl, ct, M, e0, r, P, T, par, lst, wt, num, b, w, M', Rc, N, F', W, hpa, V, hb, hw⟩
end
section
variable {fe se th : Nat → Int32} {near twice : Nat → Int64} {present : Int64} {sa kn sn an ln gn : Nat → Int32} {iN : Nat → Int64} {oe : Nat → Int32} {nc made alive built mmade : Int32} {ends mthere : Nat → Int32} {tree items : Int32} {one two what piece kinds : Nat → Int32} {nodes : Int32} {po nu up ju pa : Nat → Int32} {L : Nat} {xs : Nat → Int32} {i thr : Int32} {o : Nat → Int64}
theorem law0 {K : (Nat → Int32) → (Nat → Int32) → (Nat → Int32) → Int32 → Int32 → Int32 → Int32 → Int32 → (Nat → Int32) → (Nat → Int32) → Int32 → (Nat → Int64) → Prop} (S : GS fe se th near twice present sa kn sn an ln gn iN oe nc made alive built mmade ends mthere tree items one two what piece kinds nodes po nu up ju pa) (hi : vp_in (i + 1) L) (hi2 : vp_in (i + 2) L)
    (hK : ∀ fe se th made alive built t mmade ends mthere tree o, GS fe se th near twice present sa kn sn an ln gn iN oe nc made alive built mmade ends mthere tree items one two what piece kinds nodes po nu up ju pa → K fe se th made alive built t mmade ends mthere tree o) : wp_Law_c0 L xs i fe se th made alive built thr mmade ends mthere tree o K := by
  refine ⟨hi, hi2, ?_⟩
  have x0 : vp_in 0 1 := (in_nI (k := 0) (by omega)).mpr (by omega)
  generalize xs (ix (i + 1)) = x1
  generalize xs (ix (i + 2)) = x2
  have same : ∀ t o, K fe se th made alive built t mmade ends mthere tree o := fun t o => hK _ _ _ _ _ _ _ _ _ _ _ _ S
  obtain ⟨mk, rfl, rfl, G, R, rfl, hal, hsa, hs⟩ := id S
  have l := G.1
  -- refused for its points
  have r1 : (wp_Model_isPoint x1 (fun r_1 => jn1 (fun (z_2 : Int32) => z_2 = 1) (fun (J_3 : Int32 → Prop) => (r_1 = 0 → J_3 1) ∧ (¬ r_1 = 0 → wp_Model_isPoint x2 (fun r_5 => (r_5 = 0 → J_3 1) ∧ (¬ r_5 = 0 → (¬ x1 = x2 → J_3 0) ∧ (x1 = x2 → J_3 1))))))) → vp_in (i + 1) L ∧ vp_in (i + 2) L ∧ wp_Model_edge thr (nI mk) ends mthere tree x1 x2 (fun r_14 m_thrown_9 m_made_10 m_ends_11 m_there_12 m_tree_13 => wp_Model_thrown m_thrown_9 (fun r_15 => (r_15 = 1 → (¬ (1 : Int32) = 0 → K fe se mthere (nI mk) alive built m_thrown_9 m_made_10 m_ends_11 m_there_12 m_tree_13 o) ∧ ((1 : Int32) = 0 → vp_in 0 1 ∧ ((lg_cmp (o (ix 0)) r_14.toInt64) = 0 → K fe se mthere (nI mk) alive built m_thrown_9 m_made_10 m_ends_11 m_there_12 m_tree_13 o) ∧ (¬ (lg_cmp (o (ix 0)) r_14.toInt64) = 0 → False))) ∧ (¬ r_15 = 1 → False))) := fun hb => by
    refine ⟨hi, hi2, ?_⟩
    have fin : jn1 (fun (z_6 : Int32) => wp_Model_refused thr 1 z_6 (fun r_10 thrown_9 => (r_10 = 0 → vp_in (2 * nI mk) 200 ∧ ∀ ends_11 : Nat → Int32, ends_11 = upd ends (ix (2 * nI mk)) x1 → vp_in ((2 * nI mk) + 1) 200 ∧ ∀ ends_13 : Nat → Int32, ends_13 = upd ends_11 (ix ((2 * nI mk) + 1)) x2 → vp_in (nI mk) 100 ∧ ∀ there_15 : Nat → Int32, there_15 = upd mthere (ix (nI mk)) 1 → wp_Model_thrown thrown_9 (fun r_15 => (r_15 = 1 → (¬ (1 : Int32) = 0 → K fe se mthere (nI mk) alive built thrown_9 (nI mk + 1) ends_13 there_15 0 o) ∧ ((1 : Int32) = 0 → vp_in 0 1 ∧ ((lg_cmp (o (ix 0)) ((nI mk + 1) - 1).toInt64) = 0 → K fe se mthere (nI mk) alive built thrown_9 (nI mk + 1) ends_13 there_15 0 o) ∧ (¬ (lg_cmp (o (ix 0)) ((nI mk + 1) - 1).toInt64) = 0 → False))) ∧ (¬ r_15 = 1 → False))) ∧ (¬ r_10 = 0 → wp_Model_thrown thrown_9 (fun r_15 => (r_15 = 1 → (¬ (1 : Int32) = 0 → K fe se mthere (nI mk) alive built thrown_9 (nI mk) ends mthere tree o) ∧ ((1 : Int32) = 0 → vp_in 0 1 ∧ ((lg_cmp (o (ix 0)) (0 : Int32).toInt64) = 0 → K fe se mthere (nI mk) alive built thrown_9 (nI mk) ends mthere tree o) ∧ (¬ (lg_cmp (o (ix 0)) (0 : Int32).toInt64) = 0 → False))) ∧ (¬ r_15 = 1 → False))))) (fun (J_7 : Int32 → Prop) => (¬ nI mk = 100 → J_7 0) ∧ (nI mk = 100 → J_7 1)) := ⟨fun _ => ref_10 ⟨fun z => absurd z (by decide), fun _ => law_ex (by decide) (same _ _)⟩, fun _ => ref_10 ⟨fun z => absurd z (by decide), fun _ => law_ex (by decide) (same _ _)⟩⟩
    unfold wp_Model_edge
    rcases pt_cases x1 with p1 | ⟨u, hu, rfl⟩
    · exact mp_bad p1 ⟨fun _ => fin, fun z => absurd rfl z⟩
    · refine mp_ok hu ⟨fun z => absurd z (by decide), fun _ => ?_⟩
      rcases pt_cases x2 with p2 | ⟨v, hv, rfl⟩
      · exact mp_bad p2 ⟨fun _ => fin, fun z => absurd rfl z⟩
      · refine mp_ok hv ⟨fun z => absurd z (by decide), fun _ => ⟨fun ne => ?_, fun _ => fin⟩⟩
        exfalso
        obtain ⟨a1, a2⟩ := hb.2 (zI_nn (by omega))
        have b1 := a2 (fun z => absurd ((zI_le (j := 40) (by omega) (by omega)).mp z) (by omega))
        have b2 := b1.2 (by decide)
        have b3 := b2.2 (zI_nn (by omega))
        have b4 := b3.2 (fun z => absurd ((zI_le (j := 40) (by omega) (by omega)).mp z) (by omega))
        exact absurd ((b4.2 (by decide)).1 ne) (by decide)
  rcases pt_cases x1 with p1 | ⟨u, hu, rfl⟩
  · have := r1 (mp_bad p1 ⟨fun _ => rfl, fun z => absurd rfl z⟩)
    exact ⟨fun _ => ⟨fun _ => Or.inl ⟨rfl, this⟩, fun z => absurd rfl z⟩, fun z => ⟨fun _ => ⟨fun _ => Or.inl ⟨rfl, this⟩, fun z => absurd rfl z⟩, fun y => absurd (p1.resolve_left z) y⟩⟩
  rcases pt_cases x2 with p2 | ⟨v, hv, rfl⟩
  · have := r1 (mp_ok hu ⟨fun z => absurd z (by decide), fun _ => mp_bad p2 ⟨fun _ => rfl, fun z => absurd rfl z⟩⟩)
    refine ⟨fun z => absurd z (zI_nn (by omega)), fun _ => ⟨fun z => absurd ((zI_le (j := 40) (by omega) (by omega)).mp z) (by omega), fun _ => ⟨fun z => absurd z (by decide), fun _ => ?_⟩⟩⟩
    exact ⟨fun _ => ⟨fun _ => Or.inl ⟨rfl, this⟩, fun z => absurd rfl z⟩, fun z => ⟨fun _ => ⟨fun _ => Or.inl ⟨rfl, this⟩, fun z => absurd rfl z⟩, fun y => absurd (p2.resolve_left z) y⟩⟩
  refine ⟨fun z => absurd z (zI_nn (by omega)), fun _ => ⟨fun z => absurd ((zI_le (j := 40) (by omega) (by omega)).mp z) (by omega), fun _ => ⟨fun z => absurd z (by decide), fun _ => ?_⟩⟩⟩
  refine ⟨fun z => absurd z (zI_nn (by omega)), fun _ => ⟨fun z => absurd ((zI_le (j := 40) (by omega) (by omega)).mp z) (by omega), fun _ => ⟨fun z => absurd z (by decide), fun _ => ⟨fun ne => ?_, fun e => Or.inl ⟨rfl, r1 (mp_ok hu ⟨fun z => absurd z (by decide), fun _ => mp_ok hv ⟨fun z => absurd z (by decide), fun _ => ⟨fun n => absurd e n, fun _ => rfl⟩⟩⟩)⟩⟩⟩⟩⟩
  have neq : u ≠ v := fun k => ne (by rw [k])
  rw [L100, zI_lt (by omega) (by omega)]
  refine ⟨fun lt => ?_, fun ge => Or.inr ⟨rfl, hi, hi2, ?_⟩⟩
  · have im : vp_in (nI mk) 100 := (in_nI (by omega)).mpr lt
    refine ⟨im, fun fe' efe => ⟨im, fun se' ese => ⟨im, fun th' eth => ⟨x0, fun o1 eo => ⟨hi, hi2, ?_⟩⟩⟩⟩⟩
    rw [ix_nI (k := mk) (by omega)] at efe ese eth
    unfold wp_Model_edge
    refine mp_ok hu ⟨fun z => absurd z (by decide), fun _ => mp_ok hv ⟨fun z => absurd z (by decide), fun _ => ⟨fun _ => ⟨fun _ => ref_00 ⟨fun _ => ?_, fun z => absurd rfl z⟩, fun z => absurd ((zI_eq (k := 100) (by omega) (by omega)).mp z) (by omega)⟩, fun z => absurd z ne⟩⟩⟩
    rw [zI_dbl, zI_succ (2 * mk), ix_nI (k := 2 * mk) (by omega), ix_nI (k := 2 * mk + 1) (by omega), ix_nI (k := mk) (by omega)]
    refine ⟨(in_nI (by omega)).mpr (by omega), fun n1 e1 => ⟨(in_nI (by omega)).mpr (by omega), fun n2 e2 => ⟨im, fun t' et' => law_ok eo ?_ (hK _ _ _ _ _ _ _ _ _ _ _ _ ?_)⟩⟩⟩
    · rw [zI_succ, zI_pred (by omega), Nat.add_sub_cancel]
    · have same' : ∀ e, e < mk → fe' e = fe e ∧ se' e = se e := fun e he => by rw [efe, ese, upd_ne (by omega), upd_ne (by omega)]; exact ⟨rfl, rfl⟩
      have ed : ∀ e, Ed (mk + 1) th' e ↔ Ed mk mthere e ∨ e = mk := fun e => by
        rw [eth]
        constructor
        · rintro ⟨a, b⟩
          by_cases z : e = mk
          · exact Or.inr z
          · rw [upd_ne z] at b; exact Or.inl ⟨by omega, b⟩
        · rintro (⟨a, b⟩ | rfl)
          · exact ⟨by omega, by rw [upd_ne (by omega)]; exact b⟩
          · exact ⟨by omega, by rw [upd_at]; decide⟩
      refine ⟨mk + 1, zI_succ mk, zI_succ mk, ⟨by omega, fun e he => ?_⟩, fun e he => ?_, by rw [et', eth], ?_, hsa, Or.inl ⟨rfl, rfl⟩⟩
      · by_cases z : e = mk
        · unfold en
          rw [z, efe, ese, upd_at, upd_at, ix_nI (by omega), ix_nI (by omega)]
          exact ⟨rfl, rfl, hu, hv, neq⟩
        · obtain ⟨s1, s2⟩ := same' e (by omega)
          unfold en
          rw [s1, s2]; exact G.2 e (by omega)
      · by_cases z : e = mk
        · rw [z, e2, upd_ne (by omega), e1, upd_at, upd_at, efe, ese, upd_at, upd_at]; exact ⟨rfl, rfl⟩
        · obtain ⟨s1, s2⟩ := same' e (by omega)
          rw [e2, upd_ne (by omega), upd_ne (by omega), e1, upd_ne (by omega), upd_ne (by omega), s1, s2]; exact R e (by omega)
      · have c1 : cnt 100 (fun e => Ed (mk + 1) th' e ∧ e ≠ mk) = cnt 100 (Ed mk mthere) := cnt_congr fun e _ => ⟨fun k => ((ed e).mp k.1).resolve_right k.2, fun k => ⟨(ed e).mpr (Or.inl k), by have := k.1; omega⟩⟩
        have c2 := cnt_rem (n := 100) (P := Ed (mk + 1) th') (u := mk) (by omega) ((ed mk).mpr (Or.inr rfl))
        rw [c1] at c2
        rw [hal, zI_succ, c2]
  · have : mk = 100 := by omega
    subst this
    unfold wp_Model_edge
    exact mp_ok hu ⟨fun z => absurd z (by decide), fun _ => mp_ok hv ⟨fun z => absurd z (by decide), fun _ => ⟨fun _ => ⟨fun z => absurd rfl z, fun _ => ref_01 ⟨fun z => absurd z (by decide), fun _ => law_ex (by decide) (same _ _)⟩⟩, fun z => absurd z ne⟩⟩⟩
theorem law1 {K : (Nat → Int32) → Int32 → Int32 → Int32 → (Nat → Int32) → Int32 → Prop} (S : GS fe se th near twice present sa kn sn an ln gn iN oe nc made alive built mmade ends mthere tree items one two what piece kinds nodes po nu up ju pa) (hi : vp_in (i + 1) L)
    (hK : ∀ th alive built t mthere tree, GS fe se th near twice present sa kn sn an ln gn iN oe nc made alive built mmade ends mthere tree items one two what piece kinds nodes po nu up ju pa → K th alive built t mthere tree) : wp_Law_c1 L xs i th made alive built thr mmade mthere tree K := by
  refine ⟨hi, ?_⟩
  generalize xs (ix (i + 1)) = x
  have same : ∀ t, K th alive built t mthere tree := fun t => hK _ _ _ _ _ _ S
  obtain ⟨mk, rfl, rfl, G, R, rfl, hal, hsa, hs⟩ := id S
  have l := G.1
  unfold wp_Law_drop wp_Tree_drop
  refine sp_isThere l (fun e ex he => ⟨fun _ => ?_, fun z => absurd z (by decide)⟩) (fun n => ⟨fun z => absurd rfl z, fun _ => ⟨rfl, hi, ?_⟩⟩)
  · have e1 := he.1
    have ie : vp_in x 100 := by rw [ex]; exact (in_nI (by omega)).mpr (by omega)
    have xe : ix x = e := by rw [ex]; exact ix_nI (by omega)
    refine ⟨ie, fun th' eth => ⟨hi, ?_⟩⟩
    rw [xe] at eth
    have m : wp_Tree_isThere mthere (nI mk) x (fun r_1 => jn1 (fun (z_2 : Int32) => wp_Model_refused thr z_2 0 (fun r_6 thrown_5 => (¬ r_6 = 0 → wp_Model_thrown thrown_5 (fun r_8 => (r_8 = 0 → K th' (alive - 1) 0 thrown_5 mthere tree) ∧ (¬ r_8 = 0 → False))) ∧ (r_6 = 0 → vp_in x 100 ∧ ∀ there_7 : Nat → Int32, there_7 = upd mthere (ix x) 0 → wp_Model_thrown thrown_5 (fun r_8 => (r_8 = 0 → K th' (alive - 1) 0 thrown_5 there_7 0) ∧ (¬ r_8 = 0 → False))))) (fun (J_3 : Int32 → Prop) => (¬ r_1 = 0 → J_3 0) ∧ (r_1 = 0 → J_3 1))) := by
      refine sp_isThere l (fun _ _ _ => ⟨fun _ => ref_00 ⟨fun z => absurd rfl z, fun _ => ⟨ie, fun t7 e7 => ⟨fun _ => hK _ _ _ _ _ _ ?_, fun z => absurd rfl z⟩⟩⟩, fun z => absurd z (by decide)⟩) (fun n => absurd ⟨e, ex, he⟩ n)
      rw [xe] at e7
      have ed : ∀ x, Ed mk th' x ↔ Ed mk mthere x ∧ x ≠ e := fun y => by
        rw [eth]
        constructor
        · rintro ⟨a, b⟩
          by_cases z : y = e
          · rw [z, upd_at] at b; exact absurd rfl b
          · rw [upd_ne z] at b; exact ⟨⟨a, b⟩, z⟩
        · rintro ⟨⟨a, b⟩, c⟩
          exact ⟨a, by rw [upd_ne c]; exact b⟩
      have r := cnt_rem (n := 100) (P := Ed mk mthere) (u := e) (by omega) he
      refine ⟨mk, rfl, rfl, G, R, by rw [e7, eth], ?_, hsa, Or.inl ⟨rfl, rfl⟩⟩
      have c1 : cnt 100 (Ed mk th') = cnt 100 (fun x => Ed mk mthere x ∧ x ≠ e) := cnt_congr (fun x _ => ed x)
      have c2 : cnt 100 (Ed mk mthere) - 1 = cnt 100 (Ed mk th') := by omega
      rw [hal, zI_pred (by omega), c2]
    exact m
  · have m : wp_Tree_isThere mthere (nI mk) x (fun r_1 => jn1 (fun (z_2 : Int32) => wp_Model_refused thr z_2 0 (fun r_6 thrown_5 => (¬ r_6 = 0 → wp_Model_thrown thrown_5 (fun r_8 => (r_8 = 1 → K mthere alive built thrown_5 mthere tree) ∧ (¬ r_8 = 1 → False))) ∧ (r_6 = 0 → vp_in x 100 ∧ ∀ there_7 : Nat → Int32, there_7 = upd mthere (ix x) 0 → wp_Model_thrown thrown_5 (fun r_8 => (r_8 = 1 → K mthere alive built thrown_5 there_7 0) ∧ (¬ r_8 = 1 → False))))) (fun (J_3 : Int32 → Prop) => (¬ r_1 = 0 → J_3 0) ∧ (r_1 = 0 → J_3 1))) :=
      sp_isThere l (fun e ex he => absurd ⟨e, ex, he⟩ n) (fun _ => ⟨fun z => absurd rfl z, fun _ => ref_10 ⟨fun _ => ⟨fun _ => same _, fun z => absurd rfl z⟩, fun z => absurd z (by decide)⟩⟩)
    exact m
theorem law2 {K : Int32 → Prop} (S : GS fe se th near twice present sa kn sn an ln gn iN oe nc made alive built mmade ends mthere tree items one two what piece kinds nodes po nu up ju pa) (hK : ∀ t, K t) : wp_Law_c2 L xs i alive thr mmade mthere K := by
  obtain ⟨mk, rfl, rfl, G, R, rfl, hal, -⟩ := S
  show wp_Model_edges thr (nI mk) mthere (fun r_3 m_thrown_2 => (alive = r_3 → K m_thrown_2) ∧ (¬ alive = r_3 → False))
  exact sp_edges (th := mthere) (post := fun r_3 m_thrown_2 => (alive = r_3 → K m_thrown_2) ∧ (¬ alive = r_3 → False)) G.1 ⟨fun _ => hK _, fun n => n hal⟩
end
section
variable {fe se th : Nat → Int32} {near twice : Nat → Int64} {present : Int64} {pfe pse ho kq sa : Nat → Int32} {lnear ltwice : Nat → Int64} {lpresent : Int64} {psl pct : Int32} {row above sideUp number least weight : Nat → Int32} {oc : Int32} {kn sn an ln gn : Nat → Int32} {iN : Nat → Int64} {oe : Nat → Int32} {nc made alive built mmade : Int32} {ends mthere : Nat → Int32} {tree items : Int32} {one two what piece : Nat → Int32} {ps js : Int32} {kinds gr many : Nat → Int32} {nodes : Int32} {po nu up ju pa be go : Nat → Int32} {L : Nat} {xs : Nat → Int32} {i thr : Int32}
set_option maxHeartbeats 2000000 in
theorem law3 {K : (Nat → Int64) → (Nat → Int64) → Int64 → (Nat → Int32) → (Nat → Int32) → (Nat → Int32) → (Nat → Int32) → (Nat → Int32) → (Nat → Int64) → (Nat → Int64) → Int64 → Int32 → Int32 → (Nat → Int32) → (Nat → Int32) → (Nat → Int32) → (Nat → Int32) → (Nat → Int32) → (Nat → Int32) → Int32 → (Nat → Int32) → (Nat → Int32) → (Nat → Int32) → (Nat → Int32) → (Nat → Int32) → (Nat → Int64) → (Nat → Int32) → Int32 → Int32 → Int32 → Int32 → Int32 → (Nat → Int32) → (Nat → Int32) → (Nat → Int32) → (Nat → Int32) → Int32 → Int32 → (Nat → Int32) → (Nat → Int32) → (Nat → Int32) → Int32 → (Nat → Int32) → (Nat → Int32) → (Nat → Int32) → (Nat → Int32) → (Nat → Int32) → (Nat → Int32) → (Nat → Int32) → Prop}
    (S : GS fe se th near twice present sa kn sn an ln gn iN oe nc made alive built mmade ends mthere tree items one two what piece kinds nodes po nu up ju pa)
    (hK : ∀ near twice present a3 a4 a5 a6 sa a8 a9 a10 a11 a12 a13 a14 a15 a16 a17 a18 a19 kn sn an ln gn iN oe nc built t tree items one two what piece a36 a37 kinds a39 a40 nodes po nu up ju pa a47 a48, GS fe se th near twice present sa kn sn an ln gn iN oe nc made alive built mmade ends mthere tree items one two what piece kinds nodes po nu up ju pa → K near twice present a3 a4 a5 a6 sa a8 a9 a10 a11 a12 a13 a14 a15 a16 a17 a18 a19 kn sn an ln gn iN oe nc built t tree items one two what piece a36 a37 kinds a39 a40 nodes po nu up ju pa a47 a48) :
    wp_Law_c3 L xs i fe se th near twice present pfe pse ho kq sa lnear ltwice lpresent psl pct row above sideUp number least weight oc kn sn an ln gn iN oe nc made alive built thr mmade ends mthere tree items one two what piece ps js kinds gr many nodes po nu up ju pa be go K := by
  obtain ⟨mk, rfl, rfl, G, R, rfl, hal, hsa, hs⟩ := S
  have l := G.1
  have c100 := cnt_le 100 (Ed mk mthere)
  have e3 : alive < 3 ↔ cnt 100 (Ed mk mthere) < 3 := by rw [hal, L3, zI_lt (by omega) (by omega)]
  unfold wp_Law_c3 wp_Tree_build
  rcases hs with ⟨rfl, rfl⟩ | ⟨rfl, rfl, F, Lg, c, sl', ct', rfl, rfl, rfl, T⟩
  rotate_left
  · -- a tree stands
    refine ⟨fun z => absurd z (by decide), fun _ => ?_⟩
    obtain ⟨pfe', pse', ho', kq', sl, ct, M, e0, r, P, T', par, lst, wt, num, b, w, M', Rc, N, -⟩ := T
    refine sp_refBuild G R F Rc N fun one two what piece kinds gr many po nu up ju pa be go sl' ct' T2 => ⟨fun _ => hK _ _ _ _ _ _ _ _ _ _ _ _ _ _ _ _ _ _ _ _ _ _ _ _ _ _ _ _ _ _ _ _ _ _ _ _ _ _ _ _ _ _ _ _ _ _ _ _ _ ⟨mk, rfl, rfl, G, R, rfl, hal, hsa, Or.inr ⟨rfl, rfl, F, Lg, c, sl', ct', rfl, rfl, rfl, T2⟩⟩, fun n => n rfl⟩
  · refine ⟨fun _ => ?_, fun z => absurd rfl z⟩
    refine sp_linkEdges G fun n1 t1 r1 Lg => ?_
    -- no tree
    have no : ¬ Fit (Ed mk mthere) (In fe se) → ∀ (near twice : Nat → Int64) (present : Int64) (a3 a4 a5 a6 : Nat → Int32) (sa : Nat → Int32) (a8 a9 : Nat → Int64) (a10 : Int64) (a11 a12 : Int32) (a13 a14 a15 a16 a17 a18 : Nat → Int32) (a19 : Int32) (kn sn an ln gn : Nat → Int32) (iN : Nat → Int64) (oe : Nat → Int32) (nc : Int32), sa 0 = nI 0 → wp_Model_build thr (nI mk) ends mthere 0 items one two what piece ps js kinds gr many nodes po nu up ju pa be go (fun r_51 m_thrown_31 m_tree_32 m_items_33 m_one_34 m_two_35 m_what_36 m_piece_37 m_pieces_38 m_joints_39 m_kinds_40 m_group_41 m_many_42 m_nodes_43 m_pieceOf_44 m_numberOf_45 m_ups_46 m_jointUp_47 m_partner_48 m_beyonds_49 m_gone_50 => ((-1 : Int32) = r_51 → K near twice present a3 a4 a5 a6 sa a8 a9 a10 a11 a12 a13 a14 a15 a16 a17 a18 a19 kn sn an ln gn iN oe nc 0 m_thrown_31 m_tree_32 m_items_33 m_one_34 m_two_35 m_what_36 m_piece_37 m_pieces_38 m_joints_39 m_kinds_40 m_group_41 m_many_42 m_nodes_43 m_pieceOf_44 m_numberOf_45 m_ups_46 m_jointUp_47 m_partner_48 m_beyonds_49 m_gone_50) ∧ (¬ (-1 : Int32) = r_51 → False)) := fun nf near twice present a3 a4 a5 a6 sa a8 a9 a10 a11 a12 a13 a14 a15 a16 a17 a18 a19 kn sn an ln gn iN oe nc hsa =>
      sp_modelTree G R (fun F => absurd F nf) (fun _ gr => ⟨fun _ => hK _ _ _ _ _ _ _ _ _ _ _ _ _ _ _ _ _ _ _ _ _ _ _ _ _ _ _ _ _ _ _ _ _ _ _ _ _ _ _ _ _ _ _ _ _ _ _ _ _ ⟨mk, rfl, rfl, G, R, rfl, hal, hsa, Or.inl ⟨rfl, rfl⟩⟩, fun n => n rfl⟩)
    refine ⟨fun z => no (fun F => absurd F.1 (by rw [e3] at z; omega)) _ _ _ _ _ _ _ _ _ _ _ _ _ _ _ _ _ _ _ _ _ _ _ _ _ _ _ _ hsa, fun z => ?_⟩
    rw [e3] at z
    refine sp_holdTogether G Lg (fun con => ⟨fun _ => ?_, fun y => absurd y (by decide)⟩) (fun nc => ⟨fun y => absurd rfl y, fun _ => no (fun F => nc F.2) _ _ _ _ _ _ _ _ _ _ _ _ _ _ _ _ _ _ _ _ _ _ _ _ _ _ _ _ hsa⟩)
    have F : Fit (Ed mk mthere) (In fe se) := ⟨by omega, con⟩
    refine sp_classTree G F hsa fun fe' se' ho kq sa near twice present sl ct M FF hsa' => ?_
    have hex : ∃ e, Ed mk mthere e := by
      obtain ⟨e, -, he⟩ := cnt_some (n := 100) (P := Ed mk mthere) (by omega)
      exact ⟨e, he⟩
    refine sp_classNodes FF hex fun ro ab su nu' le we kn sn an ln gn iN oe e0 r c P T par lst wt num Rc N => ?_
    refine sp_refBuild G R F Rc N fun one two what piece kinds gr many po nu up ju pa be go sl' ct' T2 => ⟨fun _ => hK _ _ _ _ _ _ _ _ _ _ _ _ _ _ _ _ _ _ _ _ _ _ _ _ _ _ _ _ _ _ _ _ _ _ _ _ _ _ _ _ _ _ _ _ _ _ _ _ _ ⟨mk, rfl, rfl, G, R, rfl, hal, hsa', Or.inr ⟨rfl, rfl, F, Lg, c, sl', ct', rfl, rfl, rfl, T2⟩⟩, fun n => n rfl⟩
end
