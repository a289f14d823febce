/-! PURE PART XXXIII: the law's case of a pair -/
theorem for4c {A C D : Type} {F : (A → C → Int32 → D → Prop) → A → C → Int32 → D → Prop} (N : Nat) (J : Nat → A → C → D → Prop) (hN : N < 2147483647) (k0 : Nat) (x : A) (y : C) (d : D) (hk : k0 ≤ N) (h : J k0 x y d) (step : ∀ (K : A → C → Int32 → D → Prop) (k : Nat) (x : A) (y : C) (d : D), k ≤ N → J k x y d → (k < N → ∀ (x' : A) (y' : C) (d' : D), J (k + 1) x' y' d' → K x' y' (nI (k + 1)) d') → F K x y (nI k) d) : ∃ n, sL4 F n x y (nI k0) d := by
  refine sL4_of (F := F) (fun x y i d => ∃ k, i = nI k ∧ k ≤ N ∧ J k x y d) (fun _ _ i _ => N - ix i) ?_ _ _ _ _ ⟨k0, rfl, hk, h⟩
  rintro K x y _ d ⟨k, rfl, hk, hJ⟩ ih
  refine step K k x y d hk hJ (fun lt x' y' d' hy => ih x' y' _ d' ⟨k + 1, rfl, by omega, hy⟩ ?_)
  rw [ix_nI (by omega), ix_nI (by omega)]; omega
section
variable {fe se th ends : Nat → Int32} {mk : Nat}
theorem cnt_Ed (hmk : mk ≤ 100) : cnt 100 (Ed mk th) = cnt mk (Ed mk th) := by
  have : ∀ n, mk ≤ n → cnt n (Ed mk th) = cnt mk (Ed mk th) := fun n hn => by
    induction n with
    | zero => have : mk = 0 := by omega
              rw [this]
    | succ n ih =>
      by_cases z : mk = n + 1
      · rw [z]
      · rw [cnt_succ, pr_f (fun k => absurd k.1 (by omega)), ih (by omega)]; rfl
  exact this 100 hmk
theorem ed_two (G : GC fe se mk) (F : Fit (Ed mk th) (In fe se)) {e x : Nat} (he : Ed mk th e) (hx : x = en fe e ∨ x = en se e) : ∃ t, Ed mk th t ∧ t ≠ e ∧ (x = en fe t ∨ x = en se t) := by
  have g := G.gr (th := th)
  have h2 := F.two g
  have r := cnt_rem (g.1 e he) he
  have f1 := F.1
  obtain ⟨e', -, he', ne⟩ := cnt_some (n := 100) (P := fun x => Ed mk th x ∧ x ≠ e) (by omega)
  have b := (bdy_both g h2 (X := fun t => t = e) (u := en fe e) (v := en se e) ⟨e, he, rfl⟩ ⟨e', he', ne⟩ (fun y k => by
    obtain ⟨⟨t, ht, te, it⟩, -⟩ := k
    have te : t = e := te
    rw [te] at it
    exact it) x).mpr hx
  obtain ⟨-, t, ht, tn, it⟩ := b
  exact ⟨t, ht, tn, it⟩
/-- the reference's condition for a pair, and what it means -/
theorem pair_iff {gr : Nat → Int32} {u v : Nat} (G : GC fe se mk) (F : Fit (Ed mk th) (In fe se)) (huv : u ≠ v) (L : Lb (Rl (Ed mk th) (en fe) (en se) u v) gr) :
    ((2 ≤ cnt mk (fun s => Ed mk th s ∧ btw (en fe) (en se) u v s) ∧ 4 ≤ cnt mk (Ed mk th)) ∨ ∃ g, g < 40 ∧ 2 ≤ cnt mk (fun s => Ed mk th s ∧ ¬ btw (en fe) (en se) u v s ∧ gr (oe (en fe) (en se) u v s) = nI g) ∧ cnt mk (fun s => Ed mk th s ∧ ¬ btw (en fe) (en se) u v s ∧ gr (oe (en fe) (en se) u v s) = nI g) + 2 ≤ cnt mk (Ed mk th)) ↔ Spl (Ed mk th) (en fe) (en se) u v := by
  constructor
  · rintro (⟨a, b⟩ | ⟨g, hg, a, b⟩)
    · have cf := cnt_first (P := fun s => Ed mk th s ∧ btw (en fe) (en se) u v s) 2 mk
      have cq : cnt mk (fun s => Ed mk th s ∧ (btw (en fe) (en se) u v s ∧ cnt s (fun s => Ed mk th s ∧ btw (en fe) (en se) u v s) < 2)) = min 2 (cnt mk (fun s => Ed mk th s ∧ btw (en fe) (en se) u v s)) := by
        rw [← cf]
        exact cnt_congr fun s _ => ⟨fun k => ⟨⟨k.1, k.2.1⟩, k.2.2⟩, fun k => ⟨k.1.1, k.1.2, k.2⟩⟩
      have cs := cnt_split (P := Ed mk th) (Q := fun s => btw (en fe) (en se) u v s ∧ cnt s (fun s => Ed mk th s ∧ btw (en fe) (en se) u v s) < 2) mk
      obtain ⟨x, y, -, -, hx, hy, xy⟩ := cnt_ex2 (n := mk) (P := fun s => Ed mk th s ∧ (btw (en fe) (en se) u v s ∧ cnt s (fun s => Ed mk th s ∧ btw (en fe) (en se) u v s) < 2)) (by omega)
      obtain ⟨x', y', -, -, hx', hy', xy'⟩ := cnt_ex2 (n := mk) (P := fun s => Ed mk th s ∧ ¬ (btw (en fe) (en se) u v s ∧ cnt s (fun s => Ed mk th s ∧ btw (en fe) (en se) u v s) < 2)) (by omega)
      refine ⟨fun s => btw (en fe) (en se) u v s ∧ cnt s (fun s => Ed mk th s ∧ btw (en fe) (en se) u v s) < 2, ⟨x, y, hx.1, hy.1, hx.2, hy.2, xy⟩, ⟨x', y', hx'.1, hy'.1, hx'.2, hy'.2, xy'⟩, fun s t z hs _ qs _ ks _ => ?_⟩
      have d := G.e40 hs
      have := qs.1
      unfold btw at this
      omega
    · have cs := cnt_split (P := Ed mk th) (Q := fun s => ¬ btw (en fe) (en se) u v s ∧ gr (oe (en fe) (en se) u v s) = nI g) mk
      obtain ⟨x, y, -, -, hx, hy, xy⟩ := cnt_ex2 a
      obtain ⟨x', y', -, -, hx', hy', xy'⟩ := cnt_ex2 (n := mk) (P := fun s => Ed mk th s ∧ ¬ (¬ btw (en fe) (en se) u v s ∧ gr (oe (en fe) (en se) u v s) = nI g)) (by omega)
      exact ⟨_, ⟨x, y, hx.1, hy.1, hx.2, hy.2, xy⟩, ⟨x', y', hx'.1, hy'.1, hx'.2, hy'.2, xy'⟩, lab_com huv L (fun s hs => G.e40 hs)⟩
  · intro sp
    refine Classical.byContradiction fun n => ?_
    refine no_part huv (N := mk) (fun s hs => hs.1) L (fun s hs => G.e40 hs) (fun s y hs k => ed_two G F hs k) (fun g hg a => ?_) (fun a => ?_) sp
    · refine Classical.byContradiction fun z => n (Or.inr ⟨g, hg, a, by omega⟩)
    · refine Classical.byContradiction fun z => n (Or.inl ⟨by omega, a⟩)
/-- a bond comes apart if it has four edges -/
theorem bond_spl {u v : Nat} (all : ∀ s, Ed mk th s → ∀ x, (x = en fe s ∨ x = en se s) → x = u ∨ x = v) : 4 ≤ cnt mk (Ed mk th) ↔ Spl (Ed mk th) (en fe) (en se) u v := by
  constructor
  · intro a
    have cf := cnt_first (P := Ed mk th) 2 mk
    have cs := cnt_split (P := Ed mk th) (Q := fun s => cnt s (Ed mk th) < 2) mk
    obtain ⟨x, y, -, -, hx, hy, xy⟩ := cnt_ex2 (n := mk) (P := fun s => Ed mk th s ∧ cnt s (Ed mk th) < 2) (by omega)
    obtain ⟨x', y', -, -, hx', hy', xy'⟩ := cnt_ex2 (n := mk) (P := fun s => Ed mk th s ∧ ¬ cnt s (Ed mk th) < 2) (by omega)
    exact ⟨fun s => cnt s (Ed mk th) < 2, ⟨x, y, hx.1, hy.1, hx.2, hy.2, xy⟩, ⟨x', y', hx'.1, hy'.1, hx'.2, hy'.2, xy'⟩, fun s t z hs _ _ _ ks _ => all s hs z ks⟩
  · rintro ⟨Q, ⟨a, b, ha, hb, qa, qb, ab⟩, ⟨c, d, hc, hd, nc, nd, cd⟩, -⟩
    exact cnt_ge4 ha.1 hb.1 hc.1 hd.1 ab (fun k => nc (k ▸ qa)) (fun k => nd (k ▸ qa)) (fun k => nc (k ▸ qb)) (fun k => nd (k ▸ qb)) cd ha hb hc hd
theorem sp_classPair {near twice : Nat → Int64} {present : Int64} {u v : Nat} {post : Int32 → Prop} (G : GC fe se mk) (F : Fit (Ed mk th) (In fe se)) (L : Lk (Ed mk th) (en fe) (en se) near twice present) (hu : u < 40) (hv : v < 40) (huv : u ≠ v) (h1 : Spl (Ed mk th) (en fe) (en se) u v → post 1) (h0 : ¬ Spl (Ed mk th) (en fe) (en se) u v → post 0) :
    wp_Tree_only (nI u) (fun r_1 => wp_Tree_only (nI v) (fun r_2 => (¬ (lg_cmp present (r_1 ||| r_2)) = 0 → wp_Links_comeApartAt near twice present (nI u) (nI v) (fun r_3 => sk_b r_3 ∧ post r_3 )) ∧ ((lg_cmp present (r_1 ||| r_2)) = 0 → (nI (cnt 100 (Ed mk th)) < 4 → post 0 ) ∧ (¬ nI (cnt 100 (Ed mk th)) < 4 → post 1 )))) := by
  refine sp_only hu fun r1 e1 => sp_only hv fun r2 e2 => ?_
  rw [cmp0]
  have bits : ∀ x, bt (r1 ||| r2) x ↔ x = u ∨ x = v := fun x => by rw [bt_or, e1, e2]
  obtain ⟨s0, -, hs0⟩ := cnt_some (n := 100) (P := Ed mk th) (by have := F.1; omega)
  have d0 := G.e40 hs0
  refine ⟨fun z => ?_, fun z => ?_⟩
  · -- there are others
    have oth : ∃ s y, Ed mk th s ∧ (y = en fe s ∨ y = en se s) ∧ y ≠ u ∧ y ≠ v := Classical.byContradiction fun n => z (bt_ext fun x => by
      have all : ∀ s y, Ed mk th s → (y = en fe s ∨ y = en se s) → y = u ∨ y = v := fun s y hs ky => Classical.byContradiction fun k => n ⟨s, y, hs, ky, fun e => k (Or.inl e), fun e => k (Or.inr e)⟩
      rw [bits, L.1]
      constructor
      · rintro ⟨s, hs, k⟩; exact all s x hs k
      · intro k
        have a := all s0 (en fe s0) hs0 (Or.inl rfl)
        have b := all s0 (en se s0) hs0 (Or.inr rfl)
        exact ⟨s0, hs0, by omega⟩)
    exact sp_comeApartAt L (fun s hs => G.e40 hs) (fun s y hs k => ed_two G F hs k) hu hv (fun _ k => ⟨Or.inr rfl, h1 k⟩) (fun k => ⟨Or.inl rfl, h0 (k oth)⟩)
  · have all : ∀ s, Ed mk th s → ∀ x, (x = en fe s ∨ x = en se s) → x = u ∨ x = v := fun s hs x k => (bits x).mp (z ▸ (L.1 x).mpr ⟨s, hs, k⟩)
    have b := bond_spl (mk := mk) (th := th) all
    have l := cnt_le 100 (Ed mk th)
    have e4 : (4 : Int32) = nI 4 := rfl
    rw [e4, zI_lt (by omega) (by omega), cnt_Ed G.1]
    exact ⟨fun y => h0 fun k => by have := b.mpr k; omega, fun y => h1 (b.mp (by omega))⟩
/-- the reference's answer for a pair -/
theorem sp_refPair {u v : Nat} {thr : Int32} {gr many : Nat → Int32} {post : Int32 → Int32 → (Nat → Int32) → (Nat → Int32) → Prop} (G : GC fe se mk) (R : RG fe se ends mk) (F : Fit (Ed mk th) (In fe se)) (hu : u < 40) (hv : v < 40) (huv : u ≠ v)
    (h1 : Spl (Ed mk th) (en fe) (en se) u v → ∀ gr many, post 1 0 gr many) (h0 : ¬ Spl (Ed mk th) (en fe) (en se) u v → ∀ gr many, post 0 0 gr many) : wp_Model_isPair thr (nI mk) ends th 1 gr many (nI u) (nI v) post := by
  have l := G.1
  have pt : ∀ x, x < 40 → ∀ p : Int32 → Prop, p 1 → wp_Model_isPoint (nI x) p := fun x hx p hp => ⟨fun z => absurd z (zI_nn (by omega)), fun _ => ⟨fun z => absurd ((zI_le (j := 40) (by omega) (by omega)).mp z) (by omega), fun _ => hp⟩⟩
  unfold wp_Model_isPair
  refine ⟨fun _ => ⟨fun z => absurd z (by decide), fun _ => pt u hu _ ⟨fun z => absurd z (by decide), fun _ => pt v hv _ ⟨fun _ => ref_00 ⟨fun _ => ⟨fun _ => ?_, fun z => absurd ((zI_eq (by omega) (by omega)).mp z) huv⟩, fun z => absurd rfl z⟩, fun z => absurd z (by decide)⟩⟩⟩, fun z => absurd z (by decide)⟩
  refine for2 40 (fun k many => ∀ x, x < k → many x = nI 0) (by omega) 0 many (by omega) (fun x k => absurd k (by omega)) (fun K k many hk hJ nx => ⟨fun q => ?_, fun q => ?_⟩)
  rotate_left
  · rw [L40, zI_le (by omega) (by omega)] at q
    rw [ix_nI (by omega), zI_succ]
    refine ⟨(in_nI (by omega)).mpr (by omega), fun m' em => nx (by omega) _ fun x hx => ?_⟩
    by_cases z : x = k
    · rw [em, z, upd_at]; rfl
    · rw [em, upd_ne z]; exact hJ x (by omega)
  rw [L40, zI_le (by omega) (by omega)] at q
  refine sp_join G R (fun y hy => zI_eq (by omega) (by omega)) (fun y hy => zI_eq (by omega) (by omega)) fun gr Lg => ?_
  have hm0 : ∀ x, x < 40 → many x = nI 0 := fun x hx => hJ x (by omega)
  clear hJ nx q
  refine for4c mk (fun n al a many => al = nI (cnt n (Ed mk th)) ∧ a = nI (cnt n (fun s => Ed mk th s ∧ btw (en fe) (en se) u v s)) ∧ ∀ g, g < 40 → many g = nI (cnt n (fun s => Ed mk th s ∧ ¬ btw (en fe) (en se) u v s ∧ gr (oe (en fe) (en se) u v s) = nI g))) (by omega) 0 0 0 many (by omega) ⟨rfl, rfl, hm0⟩ (fun K n al a many hn hJ nx => ⟨fun q => ?_, fun q => ?_⟩)
  · rw [zI_le (by omega) (by omega)] at q
    have : n = mk := by omega
    subst this
    obtain ⟨rfl, rfl, hm⟩ := hJ
    have iff := pair_iff G F huv Lg
    have c1 := cnt_le n (Ed n th)
    have c2 := cnt_le n (fun s => Ed n th s ∧ btw (en fe) (en se) u v s)
    have main : ∀ z : Int32, (z = 1 ∧ Spl (Ed n th) (en fe) (en se) u v) ∨ (z = 0 ∧ ¬ (2 ≤ cnt n (fun s => Ed n th s ∧ btw (en fe) (en se) u v s) ∧ 4 ≤ cnt n (Ed n th))) → ∃ n', sL2 (fun (K_29 : Int32 → Int32 → Prop) (i5_27 : Int32) (i6_28 : Int32) => (40 ≤ i6_28 → sk_b i5_27 ∧ post i5_27 0 gr many) ∧ (¬ 40 ≤ i6_28 → (¬ i5_27 = 0 → K_29 1 (i6_28 + 1)) ∧ (i5_27 = 0 → vp_in i6_28 40 ∧ ((many (ix i6_28)) ≤ 1 → K_29 0 (i6_28 + 1)) ∧ (¬ (many (ix i6_28)) ≤ 1 → vp_in i6_28 40 ∧ ((nI (cnt n (Ed n th)) - (many (ix i6_28))) ≤ 1 → K_29 0 (i6_28 + 1)) ∧ (¬ (nI (cnt n (Ed n th)) - (many (ix i6_28))) ≤ 1 → K_29 1 (i6_28 + 1)))))) n' z 0 := by
      intro z hz
      refine for2b 40 (fun k z => (z = 1 ∧ Spl (Ed n th) (en fe) (en se) u v) ∨ (z = 0 ∧ ¬ (2 ≤ cnt n (fun s => Ed n th s ∧ btw (en fe) (en se) u v s) ∧ 4 ≤ cnt n (Ed n th)) ∧ ∀ g, g < k → ¬ (2 ≤ cnt n (fun s => Ed n th s ∧ ¬ btw (en fe) (en se) u v s ∧ gr (oe (en fe) (en se) u v s) = nI g) ∧ cnt n (fun s => Ed n th s ∧ ¬ btw (en fe) (en se) u v s ∧ gr (oe (en fe) (en se) u v s) = nI g) + 2 ≤ cnt n (Ed n th)))) (by omega) 0 z (by omega) (hz.imp id fun k => ⟨k.1, k.2, fun g k => absurd k (by omega)⟩) (fun K k z hk hJ nx => ⟨fun q => ?_, fun q => ?_⟩)
      · rw [L40, zI_le (by omega) (by omega)] at q
        rcases hJ with ⟨rfl, sp⟩ | ⟨rfl, n1, n2⟩
        · exact ⟨Or.inr rfl, h1 sp _ _⟩
        · refine ⟨Or.inl rfl, h0 (fun sp => ?_) _ _⟩
          rcases iff.mpr sp with k1 | ⟨g, hg, k1⟩
          · exact n1 k1
          · exact n2 g (by omega) k1
      · rw [L40, zI_le (by omega) (by omega)] at q
        have ik : vp_in (nI k) 40 := (in_nI (by omega)).mpr (by omega)
        rw [ix_nI (k := k) (by omega), zI_succ, hm k (by omega)]
        rcases hJ with ⟨rfl, sp⟩ | ⟨rfl, n1, n2⟩
        · exact ⟨fun _ => nx (by omega) _ (Or.inl ⟨rfl, sp⟩), fun z => absurd z (by decide)⟩
        · have c3 : cnt n (fun s => Ed n th s ∧ ¬ btw (en fe) (en se) u v s ∧ gr (oe (en fe) (en se) u v s) = nI k) ≤ cnt n (Ed n th) := cnt_mono fun s _ t => t.1
          rw [zI_sub c3, L1, zI_le (by omega) (by omega), zI_le (by omega) (by omega)]
          have no : ¬ (2 ≤ cnt n (fun s => Ed n th s ∧ ¬ btw (en fe) (en se) u v s ∧ gr (oe (en fe) (en se) u v s) = nI k) ∧ cnt n (fun s => Ed n th s ∧ ¬ btw (en fe) (en se) u v s ∧ gr (oe (en fe) (en se) u v s) = nI k) + 2 ≤ cnt n (Ed n th)) → K 0 (nI (k + 1)) := fun t => nx (by omega) _ (Or.inr ⟨rfl, n1, fun g hg => by
            by_cases s : g = k
            · subst s; exact t
            · exact n2 g (by omega)⟩)
          exact ⟨fun z => absurd rfl z, fun _ => ⟨ik, fun t => no (by omega), fun t => ⟨ik, fun s => no (by omega), fun s => nx (by omega) _ (Or.inl ⟨rfl, iff.mp (Or.inr ⟨k, by omega, by omega, by omega⟩)⟩)⟩⟩⟩
    have e3 : (3 : Int32) = nI 3 := rfl
    rw [L1, e3, zI_le (by omega) (by omega), zI_le (by omega) (by omega)]
    exact ⟨fun t => main 0 (Or.inr ⟨rfl, by omega⟩), fun t => ⟨fun s => main 0 (Or.inr ⟨rfl, by omega⟩), fun s => main 1 (Or.inl ⟨rfl, iff.mp (Or.inl ⟨by omega, by omega⟩)⟩)⟩⟩
  · rw [zI_le (by omega) (by omega)] at q
    obtain ⟨rfl, rfl, hm⟩ := hJ
    obtain ⟨a1, a2, d1, d2, d3⟩ := G.2 n (by omega)
    obtain ⟨r1, r2⟩ := R n (by omega)
    simp only [zI_dbl, zI_succ]
    rw [ix_nI (k := n) (by omega), ix_nI (k := 2 * n) (by omega), ix_nI (k := 2 * n + 1) (by omega), r1, r2, a1, a2, zI_eq (j := en fe n) (k := u) (by omega) (by omega), zI_eq (j := en fe n) (k := v) (by omega) (by omega), zI_eq (j := en se n) (k := u) (by omega) (by omega), zI_eq (j := en se n) (k := v) (by omega) (by omega)]
    refine ⟨(in_nI (by omega)).mpr (by omega), fun z => nx (by omega) _ _ _ ⟨?_, ?_, fun g hg => ?_⟩, fun z => ⟨(in_nI (by omega)).mpr (by omega), (in_nI (by omega)).mpr (by omega), ?_⟩⟩
    · rw [cnt_succ, pr_f (fun y => y.2 z)]; rfl
    · rw [cnt_succ, pr_f (fun y => y.1.2 z)]; rfl
    · rw [cnt_succ, pr_f (fun y => y.1.2 z), hm g hg]; rfl
    · have ed : Ed mk th n := ⟨by omega, z⟩
      -- between, or in a group
      have one : btw (en fe) (en se) u v n → K (nI (cnt n (Ed mk th) + 1)) (nI (cnt n (fun s => Ed mk th s ∧ btw (en fe) (en se) u v s) + 1)) (nI (n + 1)) many := fun y => nx (by omega) _ _ _ ⟨by rw [cnt_succ, pr_t ed], by rw [cnt_succ, pr_t ⟨ed, y⟩], fun g hg => by rw [cnt_succ, pr_f (fun t => t.2.1 y), hm g hg]; rfl⟩
      have two : ¬ btw (en fe) (en se) u v n → ∀ x, x = oe (en fe) (en se) u v n → vp_in (nI x) 40 ∧ vp_in (gr (ix (nI x))) 40 ∧ ∀ x_41 : Int32, x_41 = many (ix (gr (ix (nI x)))) → vp_in (gr (ix (nI x))) 40 ∧ ∀ many_43 : Nat → Int32, many_43 = upd many (ix (gr (ix (nI x)))) (x_41 + 1) → K (nI (cnt n (Ed mk th) + 1)) (nI (cnt n (fun s => Ed mk th s ∧ btw (en fe) (en se) u v s))) (nI (n + 1)) many_43 := fun y x ex => by
        obtain ⟨o1, -, -⟩ := oe_end d3 y
        have x40 : x < 40 := by rw [ex]; rcases o1 with t | t <;> rw [t] <;> assumption
        obtain ⟨g0, hg0, eg0⟩ := Lg.1 x x40
        rw [ix_nI (k := x) (by omega), eg0, ix_nI (k := g0) (by omega)]
        refine ⟨(in_nI (by omega)).mpr x40, (in_nI (by omega)).mpr hg0, fun x41 e41 => ⟨(in_nI (by omega)).mpr hg0, fun m43 e43 => nx (by omega) _ _ _ ⟨by rw [cnt_succ, pr_t ed], by rw [cnt_succ, pr_f (fun t => y t.2)]; rfl, fun g hg => ?_⟩⟩⟩
        rw [ex] at eg0
        by_cases t : g = g0
        · rw [e43, t, upd_at, e41, cnt_succ, pr_t ⟨ed, y, eg0⟩, hm g0 hg0, zI_succ]
        · rw [e43, upd_ne t, cnt_succ, pr_f (fun s => t (by have := s.2.2.symm.trans eg0; rw [zI_eq (by omega) (by omega)] at this; exact this)), hm g hg]; rfl
      have yes : btw (en fe) (en se) u v n → ((1 : Int32) = 0 → (¬ (1 : Int32) = 0 → K (nI (cnt n (Ed mk th) + 1)) (nI (cnt n (fun s => Ed mk th s ∧ btw (en fe) (en se) u v s))) (nI (n + 1)) many) ∧ ((1 : Int32) = 0 → jn1 (fun (z_38 : Int32) => vp_in z_38 40 ∧ vp_in (gr (ix z_38)) 40 ∧ ∀ x_41 : Int32, x_41 = many (ix (gr (ix z_38))) → vp_in (gr (ix z_38)) 40 ∧ ∀ many_43 : Nat → Int32, many_43 = upd many (ix (gr (ix z_38))) (x_41 + 1) → K (nI (cnt n (Ed mk th) + 1)) (nI (cnt n (fun s => Ed mk th s ∧ btw (en fe) (en se) u v s))) (nI (n + 1)) many_43) (fun (J_39 : Int32 → Prop) => (en fe n = u → J_39 (nI (en se n))) ∧ (¬ en fe n = u → (¬ en fe n = v → J_39 (nI (en fe n))) ∧ (en fe n = v → J_39 (nI (en se n))))))) ∧ (¬ (1 : Int32) = 0 → (¬ (1 : Int32) = 0 → K (nI (cnt n (Ed mk th) + 1)) (nI (cnt n (fun s => Ed mk th s ∧ btw (en fe) (en se) u v s) + 1)) (nI (n + 1)) many) ∧ ((1 : Int32) = 0 → jn1 (fun (z_38 : Int32) => vp_in z_38 40 ∧ vp_in (gr (ix z_38)) 40 ∧ ∀ x_41 : Int32, x_41 = many (ix (gr (ix z_38))) → vp_in (gr (ix z_38)) 40 ∧ ∀ many_43 : Nat → Int32, many_43 = upd many (ix (gr (ix z_38))) (x_41 + 1) → K (nI (cnt n (Ed mk th) + 1)) (nI (cnt n (fun s => Ed mk th s ∧ btw (en fe) (en se) u v s) + 1)) (nI (n + 1)) many_43) (fun (J_39 : Int32 → Prop) => (en fe n = u → J_39 (nI (en se n))) ∧ (¬ en fe n = u → (¬ en fe n = v → J_39 (nI (en fe n))) ∧ (en fe n = v → J_39 (nI (en se n))))))) := fun y => ⟨fun t => absurd t (by decide), fun _ => ⟨fun _ => one y, fun t => absurd t (by decide)⟩⟩
      have no : ¬ btw (en fe) (en se) u v n → ((0 : Int32) = 0 → (¬ (0 : Int32) = 0 → K (nI (cnt n (Ed mk th) + 1)) (nI (cnt n (fun s => Ed mk th s ∧ btw (en fe) (en se) u v s))) (nI (n + 1)) many) ∧ ((0 : Int32) = 0 → jn1 (fun (z_38 : Int32) => vp_in z_38 40 ∧ vp_in (gr (ix z_38)) 40 ∧ ∀ x_41 : Int32, x_41 = many (ix (gr (ix z_38))) → vp_in (gr (ix z_38)) 40 ∧ ∀ many_43 : Nat → Int32, many_43 = upd many (ix (gr (ix z_38))) (x_41 + 1) → K (nI (cnt n (Ed mk th) + 1)) (nI (cnt n (fun s => Ed mk th s ∧ btw (en fe) (en se) u v s))) (nI (n + 1)) many_43) (fun (J_39 : Int32 → Prop) => (en fe n = u → J_39 (nI (en se n))) ∧ (¬ en fe n = u → (¬ en fe n = v → J_39 (nI (en fe n))) ∧ (en fe n = v → J_39 (nI (en se n))))))) ∧ (¬ (0 : Int32) = 0 → (¬ (0 : Int32) = 0 → K (nI (cnt n (Ed mk th) + 1)) (nI (cnt n (fun s => Ed mk th s ∧ btw (en fe) (en se) u v s) + 1)) (nI (n + 1)) many) ∧ ((0 : Int32) = 0 → jn1 (fun (z_38 : Int32) => vp_in z_38 40 ∧ vp_in (gr (ix z_38)) 40 ∧ ∀ x_41 : Int32, x_41 = many (ix (gr (ix z_38))) → vp_in (gr (ix z_38)) 40 ∧ ∀ many_43 : Nat → Int32, many_43 = upd many (ix (gr (ix z_38))) (x_41 + 1) → K (nI (cnt n (Ed mk th) + 1)) (nI (cnt n (fun s => Ed mk th s ∧ btw (en fe) (en se) u v s) + 1)) (nI (n + 1)) many_43) (fun (J_39 : Int32 → Prop) => (en fe n = u → J_39 (nI (en se n))) ∧ (¬ en fe n = u → (¬ en fe n = v → J_39 (nI (en fe n))) ∧ (en fe n = v → J_39 (nI (en se n))))))) := fun y => ⟨fun _ => ⟨fun t => absurd rfl t, fun _ => ⟨fun t => two y _ (by unfold oe; rw [if_pos (Or.inl t)]), fun t => ⟨fun s => two y _ (by unfold oe; rw [if_neg (by omega)]), fun s => two y _ (by unfold oe; rw [if_pos (Or.inr s)])⟩⟩⟩, fun t => absurd rfl t⟩
      have b1 : btw (en fe) (en se) u v n ↔ (en fe n = u ∨ en fe n = v) ∧ (en se n = u ∨ en se n = v) := by unfold btw; omega
      exact ⟨fun t1 => ⟨fun t2 => yes (b1.mpr (by omega)), fun t2 => ⟨fun t3 => no (fun y => by have := b1.mp y; omega), fun t3 => yes (b1.mpr (by omega))⟩⟩, fun t1 => ⟨fun t2 => no (fun y => by have := b1.mp y; omega), fun t2 => ⟨fun t3 => yes (b1.mpr (by omega)), fun t3 => ⟨fun t4 => no (fun y => by have := b1.mp y; omega), fun t4 => yes (b1.mpr (by omega))⟩⟩⟩⟩
end
