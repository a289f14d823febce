/-! PURE PART XVIII: which graphs are fit, for both programs -/
def Ed (mk : Nat) (th : Nat → Int32) (e : Nat) : Prop := e < mk ∧ th e ≠ 0
def In (fe se : Nat → Int32) (e x : Nat) : Prop := x = en fe e ∨ x = en se e
/-- the made edges' ends are points -/
def GC (fe se : Nat → Int32) (mk : Nat) : Prop := mk ≤ 100 ∧ ∀ e, e < mk → fe e = nI (en fe e) ∧ se e = nI (en se e) ∧ en fe e < 40 ∧ en se e < 40 ∧ en fe e ≠ en se e
def RG (fe se ends : Nat → Int32) (mk : Nat) : Prop := ∀ e, e < mk → ends (2 * e) = fe e ∧ ends (2 * e + 1) = se e
section
variable {fe se th ends : Nat → Int32} {mk : Nat}
theorem GC.gr (G : GC fe se mk) : Gr (Ed mk th) (In fe se) := by
  refine ⟨fun e he => ?_, fun e he => ?_⟩
  · have := he.1
    have := G.1
    omega
  · obtain ⟨-, -, a, b, c⟩ := G.2 e he.1
    exact ⟨_, _, a, b, c, fun x => Iff.rfl⟩
theorem GC.e40 (G : GC fe se mk) {e : Nat} (he : Ed mk th e) : en fe e < 40 ∧ en se e < 40 ∧ en fe e ≠ en se e := (G.2 e he.1).2.2
theorem sp_linkEdges {near twice : Nat → Int64} {present : Int64} {post : (Nat → Int64) → (Nat → Int64) → Int64 → Prop} (G : GC fe se mk) (h : ∀ n t r, Lk (Ed mk th) (en fe) (en se) n t r → post n t r) : wp_Tree_linkEdges fe se th near twice present (nI mk) post := by
  have l := G.1
  unfold wp_Tree_linkEdges wp_Links_clear
  refine sp_fillJ (by omega) fun n1 e1 => sp_fillJ (by omega) fun t1 e2 => ?_
  refine for4 mk (fun k n t r => Lk (fun s => s < k ∧ th s ≠ 0) (en fe) (en se) n t r) (by omega) 0 n1 t1 0 (by omega) (Lk_zero e1 e2 (fun s k => absurd k.1 (by omega))) (fun K k n t r hk hJ nx => ⟨fun q => ?_, fun q => ?_⟩)
  · rw [zI_le (by omega) (by omega)] at q
    have : k = mk := by omega
    subst this
    exact h n t r hJ
  · rw [zI_le (by omega) (by omega)] at q
    have ik : vp_in (nI k) 100 := (in_nI (by omega)).mpr (by omega)
    rw [zI_succ, ix_nI (by omega)]
    refine ⟨ik, fun z => nx (by omega) _ _ _ ?_, fun z => ⟨ik, ik, ?_⟩⟩
    · refine Lk_congr hJ (fun s => ⟨fun y => ⟨by omega, y.2⟩, fun y => ⟨?_, y.2⟩⟩) (fun _ _ => rfl) (fun _ _ => rfl)
      have : s ≠ k := fun e => y.2 (e ▸ z)
      omega
    · obtain ⟨a, b, d1, d2, d3⟩ := G.2 k (by omega)
      rw [a, b]
      refine Lk_add hJ (s0 := k) (fun y => absurd y.1 (by omega)) d1 d2 d3 fun n' t' r' L => nx (by omega) _ _ _ (Lk_congr L (fun s => ⟨fun y => ?_, fun y => ?_⟩) (fun _ _ => rfl) (fun _ _ => rfl))
      · rcases y with y | rfl
        · exact ⟨by omega, y.2⟩
        · exact ⟨by omega, z⟩
      · by_cases e : s = k
        · exact Or.inr e
        · exact Or.inl ⟨by omega, y.2⟩
theorem reach_con {near twice : Nat → Int64} {present x r : Int64} {z : Nat} (G : GC fe se mk) (L : Lk (Ed mk th) (en fe) (en se) near twice present) (hx : ∀ p, bt x p ↔ bt present p ∧ p ≠ z)
    (c1 : ∀ p, bt r p → bt x p) (c2 : ∀ p, bt x p → (∀ q, q < p → ¬ bt x q) → bt r p) (c3 : ∀ p q, bt r p → bt (near p) q → bt x q → bt r q) (c4 : ∀ Y : Nat → Prop, (∀ p, bt x p → (∀ q, q < p → ¬ bt x q) → Y p) → (∀ p q, Y p → bt x p → bt (near p) q → bt x q → Y q) → ∀ p, bt r p → Y p) : r = x ↔ Con (Ed mk th) (In fe se) z := by
  obtain ⟨l1, l2, l3⟩ := id L
  have used : ∀ p, bt present p ↔ ∃ e, Ed mk th e ∧ In fe se e p := l1
  have p40 : ∀ p, bt present p → p < 40 := fun p k => present40 L (fun s hs => G.e40 hs) k
  have nr : ∀ e a b, Ed mk th e → In fe se e a → In fe se e b → a ≠ b → bt (near a) b := fun e a b he ia ib ab => (l2 a b (p40 a ((used a).mpr ⟨e, he, ia⟩))).mpr ⟨e, he, by unfold In at ia ib; omega⟩
  constructor
  · intro rx Y hY a b ua ub az bz
    have xa : bt x a := (hx a).mpr ⟨(used a).mpr ua, az⟩
    have xb : bt x b := (hx b).mpr ⟨(used b).mpr ub, bz⟩
    have cl : ∀ p q, bt x p → bt (near p) q → bt x q → (Y p ↔ Y q) := fun p q xp n xq => by
      obtain ⟨e, he, k⟩ := (l2 p q (p40 p ((hx p).mp xp).1)).mp n
      have pz := ((hx p).mp xp).2
      have qz := ((hx q).mp xq).2
      exact hY e p q he (by unfold In; omega) (by unfold In; omega) pz qz (fun t it => by unfold In at it; omega)
    obtain ⟨p0, -, h0, l0⟩ := least_of (P := bt x) xa
    have one : ∀ p, bt x p → (∀ q, q < p → ¬ bt x q) → p = p0 := fun p hp lp => by
      have : ¬ p < p0 := fun k => l0 p k hp
      have : ¬ p0 < p := fun k => lp p0 k h0
      omega
    by_cases y0 : Y p0
    · have all := c4 Y (fun p hp lp => one p hp lp ▸ y0) (fun p q yp xp n xq => (cl p q xp n xq).mp yp)
      rw [rx] at all
      exact ⟨fun _ => all b xb, fun _ => all a xa⟩
    · have all := c4 (fun p => ¬ Y p) (fun p hp lp => one p hp lp ▸ y0) (fun p q yp xp n xq k => yp ((cl p q xp n xq).mpr k))
      rw [rx] at all
      exact ⟨fun k => absurd k (all a xa), fun k => absurd k (all b xb)⟩
  · intro C
    refine bt_ext fun p => ⟨c1 p, fun xp => ?_⟩
    obtain ⟨p0, -, h0, l0⟩ := least_of (P := bt x) xp
    have := C (bt r) (fun e a b he ia ib az bz _ => by
      have step : ∀ a b, In fe se e a → In fe se e b → a ≠ z → b ≠ z → bt r a → bt r b := fun a b ia ib az bz ra => by
        by_cases e' : a = b
        · rw [← e']; exact ra
        · exact c3 a b ra (nr e a b he ia ib e') ((hx b).mpr ⟨(used b).mpr ⟨e, he, ib⟩, bz⟩)
      exact ⟨step a b ia ib az bz, step b a ib ia bz az⟩) p0 p ((used p0).mp ((hx p0).mp h0).1) ((used p).mp ((hx p).mp xp).1) ((hx p0).mp h0).2 ((hx p).mp xp).2
    exact this.mp (c2 p0 h0 l0)
theorem Con_un (G : GC fe se mk) {z : Nat} (hz : ¬ ∃ e, Ed mk th e ∧ In fe se e z) (C : Con (Ed mk th) (In fe se) 40) : Con (Ed mk th) (In fe se) z := fun Y hY a b ua ub _ _ => by
  have n40 : ∀ e t, Ed mk th e → In fe se e t → t ≠ 40 := fun e t he it => by
    have := G.e40 he
    unfold In at it
    omega
  have nz : ∀ e t, Ed mk th e → In fe se e t → t ≠ z := fun e t he it k => hz ⟨e, he, k ▸ it⟩
  obtain ⟨ea, ha, ia⟩ := id ua
  obtain ⟨eb, hb, ib⟩ := id ub
  exact C Y (fun e x y he ix iy _ _ _ => hY e x y he ix iy (nz e x he ix) (nz e y he iy) (fun t it => nz e t he it)) a b ua ub (n40 ea a ha ia) (n40 eb b hb ib)
theorem sp_holdTogether {near twice : Nat → Int64} {present : Int64} {post : Int32 → Prop} (G : GC fe se mk) (L : Lk (Ed mk th) (en fe) (en se) near twice present) (h1 : (∀ z, Con (Ed mk th) (In fe se) z) → post 1) (h0 : (¬ ∀ z, Con (Ed mk th) (In fe se) z) → post 0) : wp_Links_holdTogether near present post := by
  have p40 : ∀ p, bt present p → p < 40 := fun p k => present40 L (fun s hs => G.e40 hs) k
  unfold wp_Links_holdTogether
  refine sp_reach p40 fun r c1 c2 c3 c4 => ?_
  have e := reach_con (z := 40) G L (fun p => ⟨fun k => ⟨k, by have := p40 p k; omega⟩, fun k => k.1⟩) c1 c2 c3 c4
  rw [cmp0]
  refine ⟨fun z => ?_, fun z => h0 fun k => z (e.mpr (k 40))⟩
  have C40 := e.mp z
  refine for1 40 (fun k => ∀ p, p < k → Con (Ed mk th) (In fe se) p) (by omega) 0 (by omega) (fun p k => absurd k (by omega)) (fun K k hk hJ nx => ⟨fun q => ?_, fun q => ?_⟩)
  · rw [L40, zI_le (by omega) (by omega)] at q
    refine h1 fun y => ?_
    by_cases t : y < 40
    · exact hJ y (by omega)
    · refine Con_un G (fun ⟨e, he, ie⟩ => ?_) C40
      have := G.e40 he
      unfold In at ie
      omega
  · rw [L40, zI_le (by omega) (by omega)] at q
    rw [zI_succ]
    refine sp_only (by omega) fun r6 e6 => ?_
    have hx : ∀ p, bt (present &&& (r6 ^^^ (-1))) p ↔ bt present p ∧ p ≠ k := fun p => by
      rw [bt_and]
      constructor
      · rintro ⟨a, b⟩; exact ⟨a, fun k => (bt_not _ (bt_lt a)).mp b ((e6 p).mpr k)⟩
      · rintro ⟨a, b⟩; exact ⟨a, (bt_not _ (bt_lt a)).mpr (fun k => b ((e6 p).mp k))⟩
    refine sp_reach (fun p y => p40 p ((hx p).mp y).1) fun r c1 c2 c3 c4 => ?_
    have e := reach_con (z := k) G L hx c1 c2 c3 c4
    rw [cmp0]
    refine ⟨fun y => nx (by omega) () fun p hp => ?_, fun y => h0 fun t => y (e.mpr (t k))⟩
    by_cases t : p = k
    · rw [t]; exact e.mp y
    · exact hJ p (by omega)
theorem sp_edges {thrown : Int32} {post : Int32 → Int32 → Prop} (hmk : mk ≤ 100) (h : post (nI (cnt 100 (Ed mk th))) 0) : wp_Model_edges thrown (nI mk) th post := by
  unfold wp_Model_edges
  have e : cnt 100 (Ed mk th) = cnt mk (Ed mk th) := by
    have : ∀ n, mk ≤ n → cnt n (Ed mk th) = cnt mk (Ed mk th) := fun n hn => by
      induction n with
      | zero => have : mk = 0 := by omega
                rw [this]
      | succ n ih =>
        by_cases z : mk = n + 1
        · rw [z]
        · rw [cnt_succ, pr_f (fun k => absurd k.1 (by omega)), ih (by omega)]; rfl
    exact this 100 hmk
  rw [e] at h
  refine for2b mk (fun k a => a = nI (cnt k (Ed mk th))) (by omega) 0 0 (by omega) rfl (fun K k a hk hJ nx => ⟨fun q => ?_, fun q => ?_⟩)
  · rw [zI_le (by omega) (by omega)] at q
    have : k = mk := by omega
    subst this
    rw [hJ]; exact h
  · rw [zI_le (by omega) (by omega)] at q
    rw [ix_nI (by omega), zI_succ]
    refine ⟨(in_nI (by omega)).mpr (by omega), fun z => nx (by omega) _ ?_, fun z => nx (by omega) _ ?_⟩
    · rw [cnt_succ, pr_f (fun y => y.2 z), hJ]; rfl
    · rw [cnt_succ, pr_t ⟨by omega, z⟩, hJ, zI_succ]
theorem sp_isUsed {x : Nat} {post : Int32 → Prop} (G : GC fe se mk) (R : RG fe se ends mk) (hx : x < 2147483648) (h1 : (∃ e, Ed mk th e ∧ In fe se e x) → post 1) (h0 : (¬ ∃ e, Ed mk th e ∧ In fe se e x) → post 0) : wp_Model_isUsed (nI mk) ends th (nI x) post := by
  have l := G.1
  unfold wp_Model_isUsed
  refine for1 mk (fun k => ∀ e, e < k → th e ≠ 0 → ¬ In fe se e x) (by omega) 0 (by omega) (fun e k => absurd k (by omega)) (fun K k hk hJ nx => ⟨fun q => ?_, fun q => ?_⟩)
  · rw [zI_le (by omega) (by omega)] at q
    exact h0 fun ⟨e, he, ie⟩ => hJ e (by have := he.1; omega) he.2 ie
  · rw [zI_le (by omega) (by omega)] at q
    obtain ⟨a, b, d1, d2, d3⟩ := G.2 k (by omega)
    obtain ⟨r1, r2⟩ := R k (by omega)
    rw [zI_dbl, zI_succ, zI_succ, ix_nI (by omega), ix_nI (by omega), ix_nI (by omega), r1, r2, a, b, zI_eq (by omega) hx, zI_eq (by omega) hx]
    refine ⟨(in_nI (by omega)).mpr (by omega), fun z => nx (by omega) () fun e he t => ?_, fun z => ⟨(in_nI (by omega)).mpr (by omega), fun y => h1 ⟨k, ⟨by omega, z⟩, Or.inl y.symm⟩, fun y => ⟨(in_nI (by omega)).mpr (by omega), fun y' => nx (by omega) () fun e he t => ?_, fun y' => h1 ⟨k, ⟨by omega, z⟩, Or.inr y'.symm⟩⟩⟩⟩
    · by_cases s : e = k
      · subst s; exact absurd z t
      · exact hJ e (by omega) t
    · by_cases s : e = k
      · subst s; unfold In; omega
      · exact hJ e (by omega) t
/-- what join makes of the edges at neither x1 nor x2 -/
theorem sp_join {gr : Nat → Int32} {x1 x2 : Int32} {u v : Nat} {post : (Nat → Int32) → Prop} (G : GC fe se mk) (R : RG fe se ends mk) (hu : ∀ y, y < 40 → (nI y = x1 ↔ y = u)) (hv : ∀ y, y < 40 → (nI y = x2 ↔ y = v)) (h : ∀ gr, Lb (Rl (Ed mk th) (en fe) (en se) u v) gr → post gr) : wp_Model_join (nI mk) ends th gr x1 x2 post := by
  have l := G.1
  unfold wp_Model_join
  refine for2 40 (fun k gr => ∀ x, x < k → gr x = nI x) (by omega) 0 gr (by omega) (fun x k => absurd k (by omega)) (fun K k gr hk hJ nx => ⟨fun q => ?_, fun q => ?_⟩)
  rotate_left
  · rw [L40, zI_le (by omega) (by omega)] at q
    rw [ix_nI (by omega), zI_succ]
    refine ⟨(in_nI (by omega)).mpr (by omega), fun g' eg => nx (by omega) _ fun x hx => ?_⟩
    by_cases z : x = k
    · rw [eg, z, upd_at]
    · rw [eg, upd_ne z]; exact hJ x (by omega)
  rw [L40, zI_le (by omega) (by omega)] at q
  have : k = 40 := by omega
  subst this
  refine for2 mk (fun k gr => Lb (Rl (fun s => s < k ∧ th s ≠ 0) (en fe) (en se) u v) gr) (by omega) 0 gr (by omega) (Lb_id (fun x hx => hJ x hx) (fun x y ⟨s, hs, _⟩ => absurd hs.1 (by omega))) (fun K2 k gr hk L nx2 => ⟨fun q2 => ?_, fun q2 => ?_⟩)
  · rw [zI_le (by omega) (by omega)] at q2
    have : k = mk := by omega
    subst this
    exact h gr L
  · rw [zI_le (by omega) (by omega)] at q2
    obtain ⟨a, b, d1, d2, d3⟩ := G.2 k (by omega)
    obtain ⟨r1, r2⟩ := R k (by omega)
    rw [zI_dbl, zI_succ, zI_succ, ix_nI (by omega), ix_nI (by omega), ix_nI (by omega), r1, r2, a, b, hu _ d1, hu _ d2, hv _ d1, hv _ d2]
    have skip : ¬ (th k ≠ 0 ∧ ¬ (en fe k = u ∨ en se k = u) ∧ ¬ (en fe k = v ∨ en se k = v)) → K2 (nI (k + 1)) gr := fun z => nx2 (by omega) _ (Lb_congr L fun x y => ⟨fun ⟨s, hs, a⟩ => ⟨s, ⟨by omega, hs.2⟩, a⟩, fun ⟨s, hs, a⟩ => ⟨s, ⟨by
      have : s ≠ k := fun e => z (e ▸ ⟨hs.2, a.1, a.2.1⟩)
      omega, hs.2⟩, a⟩⟩)
    refine ⟨(in_nI (by omega)).mpr (by omega), (in_nI (by omega)).mpr (by omega), (in_nI (by omega)).mpr (by omega), fun z => skip fun y => y.1 z, fun z => ⟨fun y1 => skip (by omega), fun y1 => ⟨fun y2 => skip (by omega), fun y2 => ⟨fun y3 => skip (by omega), fun y3 => ⟨fun y4 => skip (by omega), fun y4 => ?_⟩⟩⟩⟩⟩
    refine sp_same L d1 d2 fun gr' L' => nx2 (by omega) _ (Lb_congr L' fun a c => ⟨?_, ?_⟩)
    · rintro (⟨s, hs, d⟩ | ⟨rfl, rfl⟩)
      · exact ⟨s, ⟨by omega, hs.2⟩, d⟩
      · exact ⟨k, ⟨by omega, z⟩, by omega, by omega, rfl, rfl⟩
    · rintro ⟨s, hs, d⟩
      by_cases e : s = k
      · subst e; exact Or.inr ⟨d.2.2.1, d.2.2.2⟩
      · exact Or.inl ⟨s, ⟨by omega, hs.2⟩, d⟩
theorem sp_isOne {gr : Nat → Int32} {x1 : Int32} {z : Nat} {post : Int32 → (Nat → Int32) → Prop} (G : GC fe se mk) (R : RG fe se ends mk) (hz : ∀ y, y < 40 → (nI y = x1 ↔ y = z)) (h1 : ∀ gr, Con (Ed mk th) (In fe se) z → post 1 gr) (h0 : ∀ gr, ¬ Con (Ed mk th) (In fe se) z → post 0 gr) : wp_Model_isOne (nI mk) ends th gr x1 post := by
  unfold wp_Model_isOne
  refine sp_join G R hz hz fun gr L => ?_
  have u40 : ∀ x, (∃ e, Ed mk th e ∧ In fe se e x) → x < 40 := fun x ⟨e, he, ie⟩ => by
    have := G.e40 he
    unfold In at ie
    omega
  refine for2b 40 (fun k f => (f = -1 ∧ ∀ x, x < k → x ≠ z → ¬ ∃ e, Ed mk th e ∧ In fe se e x) ∨ (∃ y, y < k ∧ f = nI y ∧ y ≠ z ∧ (∃ e, Ed mk th e ∧ In fe se e y) ∧ ∀ x, x < k → x ≠ z → (∃ e, Ed mk th e ∧ In fe se e x) → gr x = gr y)) (by omega) 0 (-1) (by omega) (Or.inl ⟨rfl, fun x k => absurd k (by omega)⟩) (fun K k f hk hJ nx => ⟨fun q => ?_, fun q => ?_⟩)
  · rw [L40, zI_le (by omega) (by omega)] at q
    refine h1 gr fun Y hY a c ua uc az cz => ?_
    rcases hJ with ⟨-, hJ⟩ | ⟨y, -, -, -, -, hJ⟩
    · exact absurd ua (hJ a (by have := u40 a ua; omega) az)
    · refine L.2.2 Y (fun x y ⟨s, hs, k1, k2, k3, k4⟩ => hY s x y hs (Or.inl k3) (Or.inr k4) (by omega) (by omega) (fun t it => by unfold In at it; omega)) a c (u40 a ua) (u40 c uc) ?_
      exact (hJ a (by have := u40 a ua; omega) az ua).trans (hJ c (by have := u40 c uc; omega) cz uc).symm
  · rw [L40, zI_le (by omega) (by omega)] at q
    rw [zI_succ, hz k (by omega)]
    have skip : (k ≠ z → ¬ ∃ e, Ed mk th e ∧ In fe se e k) → K f (nI (k + 1)) := fun n => nx (by omega) _ (by
      rcases hJ with ⟨e, hJ⟩ | ⟨y, hy, e, yz, uy, hJ⟩
      · exact Or.inl ⟨e, fun x hx xz => by
          by_cases t : x = k
          · subst t; exact n xz
          · exact hJ x (by omega) xz⟩
      · exact Or.inr ⟨y, by omega, e, yz, uy, fun x hx xz ux => by
          by_cases t : x = k
          · subst t; exact absurd ux (n xz)
          · exact hJ x (by omega) xz ux⟩)
    refine ⟨fun e => skip fun n => absurd e n, fun e => ?_⟩
    refine sp_isUsed G R (by omega) (fun uk => ⟨fun y => absurd y (by decide), fun _ => ?_⟩) (fun uk => ⟨fun _ => skip fun _ => uk, fun y => absurd rfl y⟩)
    rcases hJ with ⟨ef, hJ⟩ | ⟨y, hy, ef, yz, uy, hJ⟩
    · rw [ef]
      refine ⟨fun _ => nx (by omega) _ (Or.inr ⟨k, by omega, rfl, e, uk, fun x hx xz ux => ?_⟩), fun t => absurd (by decide) t⟩
      by_cases t : x = k
      · rw [t]
      · exact absurd ux (hJ x (by omega) xz)
    · rw [ef, ix_nI (by omega), ix_nI (by omega)]
      refine ⟨fun t => absurd t (zI_nn (by omega)), fun _ => ⟨(in_nI (by omega)).mpr (by omega), (in_nI (by omega)).mpr (by omega), fun g => nx (by omega) _ (Or.inr ⟨k, by omega, rfl, e, uk, fun x hx xz ux => ?_⟩), fun g => h0 gr fun C => g ?_⟩⟩
      · by_cases t : x = k
        · rw [t]
        · exact (hJ x (by omega) xz ux).trans g.symm
      · refine (C (fun x => gr x = gr y) (fun e a c he ia ic az cz al => ?_) k y uk uy e yz).mpr rfl
        have d := G.e40 he
        have s : gr (en fe e) = gr (en se e) := L.2.1 _ _ d.1 d.2.1 ⟨e, he, by have := al _ (Or.inl rfl); have := al _ (Or.inr rfl); omega, by have := al _ (Or.inl rfl); have := al _ (Or.inr rfl); omega, rfl, rfl⟩
        have : gr a = gr c := by
          rcases ia with ia | ia <;> rcases ic with ic | ic <;> rw [ia, ic]
          · exact s
          · exact s.symm
        rw [this]
theorem sp_isFit {thrown : Int32} {gr : Nat → Int32} {post : Int32 → Int32 → (Nat → Int32) → Prop} (G : GC fe se mk) (R : RG fe se ends mk) (h1 : ∀ gr, Fit (Ed mk th) (In fe se) → post 1 0 gr) (h0 : ∀ gr, ¬ Fit (Ed mk th) (In fe se) → post 0 0 gr) : wp_Model_isFit thrown (nI mk) ends th gr post := by
  unfold wp_Model_isFit
  refine sp_edges G.1 ?_
  have c100 := cnt_le 100 (Ed mk th)
  have main : ∀ (z : Int32) (gr : Nat → Int32), (z = 0 ∧ ¬ Fit (Ed mk th) (In fe se)) ∨ (z = 1 ∧ 3 ≤ cnt 100 (Ed mk th) ∧ Con (Ed mk th) (In fe se) 40) → ∃ n, sL3 (fun (K_12 : Int32 → Int32 → (Nat → Int32) → Prop) (i1_9 : Int32) (i2_10 : Int32) (group_11 : Nat → Int32) => (40 ≤ i2_10 → sk_b i1_9 ∧ post i1_9 0 group_11) ∧ (¬ 40 ≤ i2_10 → (i1_9 = 0 → K_12 0 (i2_10 + 1) group_11) ∧ (¬ i1_9 = 0 → wp_Model_isUsed (nI mk) ends th i2_10 (fun r_15 => (r_15 = 0 → K_12 1 (i2_10 + 1) group_11) ∧ (¬ r_15 = 0 → wp_Model_isOne (nI mk) ends th group_11 i2_10 (fun r_17 group_16 => (r_17 = 0 → K_12 0 (i2_10 + 1) group_16) ∧ (¬ r_17 = 0 → K_12 1 (i2_10 + 1) group_16))))))) n z 0 gr := by
    intro z gr hz
    refine for3b 40 (fun k z _ => (z = 0 ∧ ¬ Fit (Ed mk th) (In fe se)) ∨ (z = 1 ∧ 3 ≤ cnt 100 (Ed mk th) ∧ Con (Ed mk th) (In fe se) 40 ∧ ∀ p, p < k → (∃ e, Ed mk th e ∧ In fe se e p) → Con (Ed mk th) (In fe se) p)) (by omega) 0 z gr (by omega) (by
      rcases hz with hz | hz
      · exact Or.inl hz
      · exact Or.inr ⟨hz.1, hz.2.1, hz.2.2, fun p k => absurd k (by omega)⟩) (fun K k z gr hk hJ nx => ⟨fun q => ?_, fun q => ?_⟩)
    · rw [L40, zI_le (by omega) (by omega)] at q
      rcases hJ with ⟨rfl, nf⟩ | ⟨rfl, c3, c40, hJ⟩
      · exact ⟨Or.inl rfl, h0 gr nf⟩
      · refine ⟨Or.inr rfl, h1 gr ⟨c3, fun y => ?_⟩⟩
        by_cases u : ∃ e, Ed mk th e ∧ In fe se e y
        · refine hJ y ?_ u
          obtain ⟨e, he, ie⟩ := u
          have := G.e40 he
          unfold In at ie
          omega
        · exact Con_un G u c40
    · rw [L40, zI_le (by omega) (by omega)] at q
      rw [zI_succ]
      rcases hJ with ⟨rfl, nf⟩ | ⟨rfl, c3, c40, hJ⟩
      · exact ⟨fun _ => nx (by omega) _ _ (Or.inl ⟨rfl, nf⟩), fun y => absurd rfl y⟩
      · refine ⟨fun y => absurd y (by decide), fun _ => ?_⟩
        have more : ∀ gr, ((∃ e, Ed mk th e ∧ In fe se e k) → Con (Ed mk th) (In fe se) k) → K 1 (nI (k + 1)) gr := fun gr c => nx (by omega) _ _ (Or.inr ⟨rfl, c3, c40, fun p hp u => by
          by_cases t : p = k
          · subst t; exact c u
          · exact hJ p (by omega) u⟩)
        refine sp_isUsed G R (by omega) (fun u => ⟨fun y => absurd y (by decide), fun _ => ?_⟩) (fun u => ⟨fun _ => more gr fun y => absurd y u, fun y => absurd rfl y⟩)
        refine sp_isOne G R (fun y hy => zI_eq (by omega) (by omega)) (fun gr c => ⟨fun y => absurd y (by decide), fun _ => more gr fun _ => c⟩) (fun gr c => ⟨fun _ => nx (by omega) _ _ (Or.inl ⟨rfl, fun F => c (F.2 k)⟩), fun y => absurd rfl y⟩)
  refine ⟨fun q => ?_, fun q => ?_⟩
  · rw [L2, zI_le (by omega) (by omega)] at q
    exact main 0 gr (Or.inl ⟨rfl, fun F => absurd F.1 (by omega)⟩)
  · rw [L2, zI_le (by omega) (by omega)] at q
    refine sp_isOne G R (z := 40) (fun y hy => ⟨fun k => absurd k (zI_ne (by omega)), fun k => absurd k (by omega)⟩) (fun gr c => ⟨fun y => absurd y (by decide), fun _ => main 1 gr (Or.inr ⟨rfl, by omega, c⟩)⟩) (fun gr c => ⟨fun _ => main 0 gr (Or.inl ⟨rfl, fun F => c (F.2 40)⟩), fun y => absurd rfl y⟩)
end
