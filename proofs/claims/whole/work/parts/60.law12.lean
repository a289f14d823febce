/-! PURE PART XXXIV: the law's cases of two points -/
theorem pt_cases (x : Int32) : (x < 0 ∨ (40 : Int32) ≤ x) ∨ ∃ u, u < 40 ∧ x = nI u := by
  by_cases z : x < 0
  · exact Or.inl (Or.inl z)
  by_cases y : (40 : Int32) ≤ x
  · exact Or.inl (Or.inr y)
  · obtain ⟨a, d⟩ := zI_of z
    rw [a, L40, zI_le (by omega) d] at y
    exact Or.inr ⟨ix x, by omega, a⟩
theorem cp_bad {x : Int32} {P : Prop} {exn : Nat → Prop} (b : x < 0 ∨ (40 : Int32) ≤ x) (h : exn 2) : wp_Tree_checkPoint x P exn := ⟨fun _ => ⟨fun y => absurd rfl y, fun _ => h⟩, fun z => ⟨fun _ => ⟨fun y => absurd rfl y, fun _ => h⟩, fun y => absurd (b.resolve_left z) y⟩⟩
theorem cp_ok {u : Nat} {P : Prop} {exn : Nat → Prop} (hu : u < 40) (h : P) : wp_Tree_checkPoint (nI u) P exn := ⟨fun z => absurd z (zI_nn (by omega)), fun _ => ⟨fun z => absurd ((zI_le (j := 40) (by omega) (by omega)).mp z) (by omega), fun _ => ⟨fun _ => h, fun z => absurd z (by decide)⟩⟩⟩
theorem mp_bad {x : Int32} {p : Int32 → Prop} (b : x < 0 ∨ (40 : Int32) ≤ x) (h : p 0) : wp_Model_isPoint x p := ⟨fun _ => h, fun z => ⟨fun _ => h, fun y => absurd (b.resolve_left z) y⟩⟩
theorem mp_ok {u : Nat} {p : Int32 → Prop} (hu : u < 40) (h : p 1) : wp_Model_isPoint (nI u) p := ⟨fun z => absurd z (zI_nn (by omega)), fun _ => ⟨fun z => absurd ((zI_le (j := 40) (by omega) (by omega)).mp z) (by omega), fun _ => h⟩⟩
theorem law_b0 {o o1 : Nat → Int64} {K : Prop} (eo : o1 = vp_updL o (ix 0) 0) (k : K) : ((0 : Int32) = 0 → (¬ (0 : Int32) = 0 → K) ∧ ((0 : Int32) = 0 → vp_in 0 1 ∧ jn1 (fun (z_8 : Int64) => ((lg_cmp (o1 (ix 0)) z_8) = 0 → K) ∧ (¬ (lg_cmp (o1 (ix 0)) z_8) = 0 → False)) (fun (J_9 : Int64 → Prop) => ((0 : Int32) = 0 → J_9 0) ∧ (¬ (0 : Int32) = 0 → J_9 1)))) ∧ (¬ (0 : Int32) = 0 → False) := by
  obtain ⟨a, b⟩ := law_okb (r := 0) eo rfl k
  exact ⟨fun _ => ⟨fun _ => k, fun _ => ⟨a, fun _ => b, fun z => absurd rfl z⟩⟩, fun z => z rfl⟩
theorem law_b1 {o o1 : Nat → Int64} {K : Prop} (eo : o1 = vp_updL o (ix 0) 1) (k : K) : ((0 : Int32) = 0 → (¬ (0 : Int32) = 0 → K) ∧ ((0 : Int32) = 0 → vp_in 0 1 ∧ jn1 (fun (z_8 : Int64) => ((lg_cmp (o1 (ix 0)) z_8) = 0 → K) ∧ (¬ (lg_cmp (o1 (ix 0)) z_8) = 0 → False)) (fun (J_9 : Int64 → Prop) => ((1 : Int32) = 0 → J_9 0) ∧ (¬ (1 : Int32) = 0 → J_9 1)))) ∧ (¬ (0 : Int32) = 0 → False) := by
  obtain ⟨a, b⟩ := law_okb (r := 1) eo rfl k
  exact ⟨fun _ => ⟨fun _ => k, fun _ => ⟨a, fun z => absurd z (by decide), fun _ => b⟩⟩, fun z => z rfl⟩
section
variable {fe se th ends : Nat → Int32} {mk : Nat} {kn sn an ln gn : Nat → Int32} {iN : Nat → Int64} {oe : Nat → Int32} {nc built tree items : Int32} {one two what piece kinds : Nat → Int32} {nodes : Int32} {po nu up ju pa : Nat → Int32} {L : Nat} {xs : Nat → Int32} {i thr alive : Int32} {o : Nat → Int64} {near twice : Nat → Int64} {present : Int64} {gr many : Nat → Int32}
theorem law12 {K : Int32 → (Nat → Int32) → (Nat → Int32) → (Nat → Int64) → Prop} (hs : (built = 0 ∧ tree = 0) ∨ (built = 1 ∧ tree = 1 ∧ Fit (Ed mk th) (In fe se) ∧ Lk (Ed mk th) (en fe) (en se) near twice present)) (G : GC fe se mk) (R : RG fe se ends mk) (hal : alive = nI (cnt 100 (Ed mk th))) (hi : vp_in (i + 1) L) (hi2 : vp_in (i + 2) L) (hK : ∀ t g m o, K t g m o) : wp_Law_c12 L xs i near twice present alive built thr (nI mk) ends th tree gr many o K := by
  refine ⟨hi, hi2, ?_⟩
  have x0 : vp_in 0 1 := (in_nI (k := 0) (by omega)).mpr (by omega)
  rcases hs with ⟨rfl, rfl⟩ | ⟨rfl, rfl, F, Lg⟩
  · refine ⟨fun z => absurd rfl z, fun _ => Or.inl ⟨rfl, hi, hi2, ?_⟩⟩
    exact ⟨fun z => absurd rfl z, fun _ => ⟨fun _ => ref_10 ⟨fun z => absurd z (by decide), fun _ => law_ex (by decide) (hK _ _ _ _)⟩, fun z => absurd rfl z⟩⟩
  · refine ⟨fun _ => ?_, fun z => absurd z (by decide)⟩
    generalize xs (ix (i + 1)) = x1
    generalize xs (ix (i + 2)) = x2
    have rbad : (x1 < 0 ∨ (40 : Int32) ≤ x1) ∨ (x2 < 0 ∨ (40 : Int32) ≤ x2) → vp_in (i + 1) L ∧ vp_in (i + 2) L ∧ wp_Model_isPair thr (nI mk) ends th 1 gr many x1 x2 (fun r_6 m_thrown_3 m_group_4 m_many_5 => wp_Model_thrown m_thrown_3 (fun r_7 => (r_7 = 2 → (¬ (2 : Int32) = 0 → K m_thrown_3 m_group_4 m_many_5 o) ∧ ((2 : Int32) = 0 → vp_in 0 1 ∧ jn1 (fun (z_8 : Int64) => ((lg_cmp (o (ix 0)) z_8) = 0 → K m_thrown_3 m_group_4 m_many_5 o) ∧ (¬ (lg_cmp (o (ix 0)) z_8) = 0 → False)) (fun (J_9 : Int64 → Prop) => (r_6 = 0 → J_9 0) ∧ (¬ r_6 = 0 → J_9 1)))) ∧ (¬ r_7 = 2 → False))) := fun b => by
      refine ⟨hi, hi2, fun _ => ⟨fun z => absurd z (by decide), fun _ => ?_⟩, fun z => absurd z (by decide)⟩
      rcases pt_cases x1 with p1 | ⟨u, hu, rfl⟩
      · exact mp_bad p1 ⟨fun _ => ref_01 ⟨fun z => absurd z (by decide), fun _ => law_ex (by decide) (hK _ _ _ _)⟩, fun z => absurd rfl z⟩
      · refine mp_ok hu ⟨fun z => absurd z (by decide), fun _ => ?_⟩
        have b2 : x2 < 0 ∨ (40 : Int32) ≤ x2 := b.resolve_left (fun z => by
          rcases z with z | z
          · exact zI_nn (by omega) z
          · rw [L40, zI_le (by omega) (by omega)] at z; omega)
        exact mp_bad b2 ⟨fun z => absurd rfl z, fun _ => ref_01 ⟨fun z => absurd z (by decide), fun _ => law_ex (by decide) (hK _ _ _ _)⟩⟩
    rcases pt_cases x1 with p1 | ⟨u, hu, rfl⟩
    · exact cp_bad p1 (Or.inr ⟨rfl, rbad (Or.inl p1)⟩)
    rcases pt_cases x2 with p2 | ⟨v, hv, rfl⟩
    · exact cp_ok hu (cp_bad p2 (Or.inr ⟨rfl, rbad (Or.inr p2)⟩))
    refine cp_ok hu (cp_ok hv ⟨fun ne => ?_, fun e => ⟨fun _ => ⟨x0, fun o1 eo => ⟨hi, hi2, ?_⟩⟩, fun z => absurd rfl z⟩⟩)
    · rw [zI_eq (by omega) (by omega)] at ne
      rw [hal]
      refine sp_classPair G F Lg hu hv ne (fun sp => ⟨fun z => absurd z (by decide), fun _ => ⟨x0, fun o1 eo => ⟨hi, hi2, ?_⟩⟩⟩) (fun sp => ⟨fun _ => ⟨x0, fun o1 eo => ⟨hi, hi2, ?_⟩⟩, fun z => absurd rfl z⟩)
      · exact sp_refPair G R F hu hv ne (fun _ _ _ => law_b1 eo (hK _ _ _ _)) (fun n => absurd sp n)
      · exact sp_refPair G R F hu hv ne (fun y => absurd y sp) (fun _ _ _ => law_b0 eo (hK _ _ _ _))
    · refine ⟨fun _ => ⟨fun z => absurd z (by decide), fun _ => mp_ok hu ⟨fun z => absurd z (by decide), fun _ => mp_ok hv ⟨fun _ => ref_00 ⟨fun _ => ⟨fun z => absurd e z, fun _ => law_b0 eo (hK _ _ _ _)⟩, fun z => absurd rfl z⟩, fun z => absurd z (by decide)⟩⟩⟩, fun z => absurd z (by decide)⟩
/-- the two points come apart by two others -/
def Apt (E : Nat → Prop) (I : Nat → Nat → Prop) (u v : Nat) : Prop := ∃ X : Nat → Prop, fn E I X ≤ 2 ∧ (∀ e, E e → I e u → X e) ∧ (∀ e, E e → I e v → ¬ X e)
theorem sp_tie {c u v : Nat} {post : Int32 → Prop} (hc : c ≤ 98) (hu : u < 40) (hv : v < 40) (h1 : (∃ n, n < c ∧ kn n ≠ 1 ∧ bt (iN n) u ∧ bt (iN n) v) → post 1) (h0 : (¬ ∃ n, n < c ∧ kn n ≠ 1 ∧ bt (iN n) u ∧ bt (iN n) v) → post 0) : wp_Nodes_tieThreefold kn iN (nI c) (nI u) (nI v) post := by
  unfold wp_Nodes_tieThreefold
  refine for1 c (fun k => ∀ n, n < k → kn n ≠ 1 → bt (iN n) u → ¬ bt (iN n) v) (by omega) 0 (by omega) (fun n k => absurd k (by omega)) (fun K k hk hJ nx => ⟨fun z => ?_, fun z => ?_⟩)
  · rw [zI_le (by omega) (by omega)] at z
    exact h0 fun ⟨n, hn, a, b, d⟩ => hJ n (by omega) a b d
  · rw [zI_le (by omega) (by omega)] at z
    have ik : vp_in (nI k) 98 := (in_nI (by omega)).mpr (by omega)
    rw [ix_nI (k := k) (by omega), zI_succ]
    have skip : ¬ (kn k ≠ 1 ∧ bt (iN k) u ∧ bt (iN k) v) → K (nI (k + 1)) := fun n => nx (by omega) () fun m hm a b d => by
      by_cases e : m = k
      · subst e; exact n ⟨a, b, d⟩
      · exact hJ m (by omega) a b d
    refine ⟨ik, fun y => skip fun t => t.1 y, fun y => ⟨ik, sp_holds hu (fun b => ⟨fun s => absurd s (by decide), fun _ => ⟨ik, sp_holds hv (fun d => ⟨fun s => absurd s (by decide), fun _ => h1 ⟨k, by omega, y, b, d⟩⟩) (fun d => ⟨fun _ => skip fun t => d t.2.2, fun s => absurd rfl s⟩)⟩⟩) (fun b => ⟨fun _ => skip fun t => b t.2.1, fun s => absurd rfl s⟩)⟩⟩
/-- a node with both points, and no ring, ties them; without one they come apart -/
theorem TR.tie {E : Nat → Prop} {I : Nat → Nat → Prop} {c sl' ct' u v : Nat} (g : Gr E I) (h2 : Two E I) (t : TR E I kn sn an ln gn iN oe one two what piece kinds po nu up ju pa c sl' ct') (huv : u ≠ v) (hu : ∃ e, E e ∧ I e u) (hv : ∃ e, E e ∧ I e v) (hno : ∀ e, E e → I e u → ¬ I e v) : (∃ n, n < c ∧ kn n ≠ 1 ∧ bt (iN n) u ∧ bt (iN n) v) ↔ ¬ Apt E I u v := by
  obtain ⟨fe', se', ho, kq, sl, ct, M, e0, r, P, T, par, lst, wt, num, b, w, M', R, N, F', W, hpa, V, -⟩ := t
  obtain ⟨F, h0, l0, hr, rc, O, h4, h5, h6⟩ := id R
  obtain ⟨o1, o2, o3, o4, o5, o6⟩ := id O
  obtain ⟨n1, n2, n3, n4, n5⟩ := N
  have c98 := F.ct98
  have one : ∀ x : Int32, x = 1 ↔ x.toInt = 1 := fun x => by rw [← Int32.toInt_inj]; rfl
  constructor
  · rintro ⟨n, hn, k1, k2, k3⟩ ⟨X, x1, x2, x3⟩
    obtain ⟨q, j, hq, hj, C, ej, -⟩ := V n hn
    subst ej
    obtain ⟨y1, y2, y3⟩ := n1 j hj
    have pj := (o1 j hj).1
    obtain ⟨s, ts, us⟩ := (y3 u).mp k2
    obtain ⟨t, tt, vt⟩ := (y3 v).mp k3
    have ls := F.lv ts (by omega)
    have lt := F.lv tt (by omega)
    have := apart_ring g h2 F.2.1 x1 x2 x3 ls lt ((Tp_hm ts tt (by omega) (by omega)).mpr rfl) ((bas_end F.1 ls).mpr us) ((bas_end F.1 lt).mpr vt)
    rw [kdf_nI (by omega) ts.2] at this
    exact k1 (by rw [y1, one]; exact this)
  · intro na
    refine Classical.byContradiction fun no => na ?_
    refine apart_cut g h2 F.2.1 huv hu hv hno fun s t ls lt hh bs bt' => ?_
    obtain ⟨p, hp, ts⟩ := F.pc ls
    obtain ⟨p', hp', tt⟩ := F.pc lt
    have : p = p' := (Tp_hm ts tt (by omega) (by omega)).mp hh
    subst this
    obtain ⟨j, hj, ej⟩ := o6 p s hp ts
    subst ej
    obtain ⟨y1, y2, y3⟩ := n1 j hj
    rw [kdf_nI (by omega) ts.2, ← one]
    refine Classical.byContradiction fun k => no ⟨num j, R.lt hj, by rw [y1]; exact k, (y3 u).mpr ⟨s, ts, (bas_end F.1 ls).mp bs⟩, (y3 v).mpr ⟨t, tt, (bas_end F.1 lt).mp bt'⟩⟩
/-- by labels: two points without which u and v are apart -/
theorem apt_iff {gr : Nat → Int32} {u v p q : Nat} (G : GC fe se mk) (F : Fit (Ed mk th) (In fe se)) (hu : u < 40) (hv : v < 40) (pu : p ≠ u) (pv : p ≠ v) (qu : q ≠ u) (qv : q ≠ v) (L : Lb (Rl (Ed mk th) (en fe) (en se) p q) gr) (ne : gr u ≠ gr v) : Apt (Ed mk th) (In fe se) u v := by
  have lab : ∀ e x y, Ed mk th e → In fe se e x → In fe se e y → x ≠ p → x ≠ q → y ≠ p → y ≠ q → gr x = gr y := fun e x y he ix iy xp xq yp yq => by
    have d := G.e40 he
    by_cases z : x = y
    · rw [z]
    · have : gr (en fe e) = gr (en se e) := L.2.1 _ _ d.1 d.2.1 ⟨e, he, by unfold In at ix iy; omega, by unfold In at ix iy; omega, rfl, rfl⟩
      rcases ix with ix | ix <;> rcases iy with iy | iy
      · omega
      · rw [ix, iy]; exact this
      · rw [ix, iy]; exact this.symm
      · omega
  refine ⟨fun e => ∃ x, In fe se e x ∧ x ≠ p ∧ x ≠ q ∧ gr x = gr u, ?_, fun e he ie => ⟨u, ie, fun k => pu k.symm, fun k => qu k.symm, rfl⟩, fun e he ie ⟨x, ix, xp, xq, ex⟩ => ?_⟩
  · refine cnt_le2 (u := p) (v := q) fun x _ k => Classical.byContradiction fun z => ?_
    obtain ⟨⟨e, he, ⟨y, iy, yp, yq, ey⟩, ie⟩, ⟨e', he', n', ie'⟩⟩ := k
    have xp : x ≠ p := fun k => z (Or.inl k)
    have xq : x ≠ q := fun k => z (Or.inr k)
    exact n' ⟨x, ie', xp, xq, (lab e x y he ie iy xp xq yp yq).trans ey⟩
  · exact ne (ex.symm.trans (lab e x v he ix ie xp xq (fun k => pv k.symm) (fun k => qv k.symm)))
theorem apt_ex {u v : Nat} (G : GC fe se mk) (F : Fit (Ed mk th) (In fe se)) (uu : ∃ e, Ed mk th e ∧ In fe se e u) (uv : ∃ e, Ed mk th e ∧ In fe se e v) (hu : u < 40) (hv : v < 40) (A : Apt (Ed mk th) (In fe se) u v) : ∃ p q, p < q ∧ q < 40 ∧ p ≠ u ∧ p ≠ v ∧ q ≠ u ∧ q ≠ v ∧ ∀ gr, Lb (Rl (Ed mk th) (en fe) (en se) p q) gr → gr u ≠ gr v := by
  obtain ⟨X, x1, x2, x3⟩ := A
  have g := G.gr (th := th)
  have h2 := F.two g
  obtain ⟨eu, heu, iu⟩ := uu
  obtain ⟨ev, hev, iv⟩ := uv
  have f2 := h2 X ⟨eu, heu, x2 eu heu iu⟩ ⟨ev, hev, x3 ev hev iv⟩
  obtain ⟨p, q, pq, hq, bp, bq, all⟩ := cnt_two (n := 40) (P := bdy (Ed mk th) (In fe se) X) (by unfold fn at f2 x1; omega)
  have nu : ¬ bdy (Ed mk th) (In fe se) X u := fun ⟨_, e, he, n, ie⟩ => n (x2 e he ie)
  have nv : ¬ bdy (Ed mk th) (In fe se) X v := fun ⟨⟨e, he, n, ie⟩, _⟩ => x3 e he ie n
  refine ⟨p, q, pq, hq, fun k => nu (k ▸ bp), fun k => nv (k ▸ bp), fun k => nu (k ▸ bq), fun k => nv (k ▸ bq), fun gr L e => ?_⟩
  have c := L.2.2 (fun x => ∃ e, Ed mk th e ∧ X e ∧ In fe se e x) (fun x y ⟨s, hs, k1, k2, k3, k4⟩ => by
    have step : ∀ x y, In fe se s x → In fe se s y → x ≠ p → x ≠ q → (∃ e, Ed mk th e ∧ X e ∧ In fe se e x) → ∃ e, Ed mk th e ∧ X e ∧ In fe se e y := fun x y ix iy xp xq ⟨e, he, xe, ie⟩ => by
      have : X s := Classical.byContradiction fun n => by
        have := all x (g.lt hs ix) ⟨⟨e, he, xe, ie⟩, ⟨s, hs, n, ix⟩⟩
        omega
      exact ⟨s, hs, this, iy⟩
    exact ⟨step x y (Or.inl k3) (Or.inr k4) (by omega) (by omega), step y x (Or.inr k4) (Or.inl k3) (by omega) (by omega)⟩) u v hu hv e
  obtain ⟨e', he', xe', ie'⟩ := c.mp ⟨eu, heu, x2 eu heu iu, iu⟩
  exact x3 e' he' ie' xe'
end
