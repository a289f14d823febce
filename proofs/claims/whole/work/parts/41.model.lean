/-! PURE PART XV: the reference takes the graph apart -/
theorem for2b {A : Type} {F : (A → Int32 → Prop) → A → Int32 → Prop} (N : Nat) (J : Nat → A → Prop) (hN : N < 2147483647) (k0 : Nat) (x : A) (hk : k0 ≤ N) (h : J k0 x) (step : ∀ (K : A → Int32 → Prop) (k : Nat) (z : A), k ≤ N → J k z → (k < N → ∀ (y : A), J (k + 1) y → K y (nI (k + 1))) → F K z (nI k)) : ∃ n, sL2 F n x (nI k0) := by
  refine sL2_of (F := F) (fun x i => ∃ k, i = nI k ∧ k ≤ N ∧ J k x) (fun _ i => N - ix i) ?_ _ _ ⟨k0, rfl, hk, h⟩
  rintro K x _ ⟨k, rfl, hk, hJ⟩ ih
  refine step K k x hk hJ (fun lt y hy => ih y _ ⟨k + 1, rfl, by omega, hy⟩ ?_)
  rw [ix_nI (by omega), ix_nI (by omega)]; omega
theorem for3b {A C : Type} {F : (A → Int32 → C → Prop) → A → Int32 → C → Prop} (N : Nat) (J : Nat → A → C → Prop) (hN : N < 2147483647) (k0 : Nat) (x : A) (c : C) (hk : k0 ≤ N) (h : J k0 x c) (step : ∀ (K : A → Int32 → C → Prop) (k : Nat) (z : A) (c : C), k ≤ N → J k z c → (k < N → ∀ (y : A) (d : C), J (k + 1) y d → K y (nI (k + 1)) d) → F K z (nI k) c) : ∃ n, sL3 F n x (nI k0) c := by
  refine sL3_of (F := F) (fun x i c => ∃ k, i = nI k ∧ k ≤ N ∧ J k x c) (fun _ i _ => N - ix i) ?_ _ _ _ ⟨k0, rfl, hk, h⟩
  rintro K x _ c ⟨k, rfl, hk, hJ⟩ ih
  refine step K k x c hk hJ (fun lt y d hy => ih y _ d ⟨k + 1, rfl, by omega, hy⟩ ?_)
  rw [ix_nI (by omega), ix_nI (by omega)]; omega
theorem cnt_succ (n : Nat) (P : Nat → Prop) : cnt (n + 1) P = cnt n P + pr (P n) := rfl
theorem cnt_ex2 {n : Nat} {P : Nat → Prop} (h : 2 ≤ cnt n P) : ∃ a b, a < n ∧ b < n ∧ P a ∧ P b ∧ a ≠ b := by
  obtain ⟨a, ha, pa⟩ := cnt_some (n := n) (P := P) (by omega)
  rw [cnt_rem ha pa] at h
  obtain ⟨b, hb, pb, ba⟩ := cnt_some (n := n) (P := fun x => P x ∧ x ≠ a) (by omega)
  exact ⟨a, b, ha, hb, pa, pb, fun k => ba k.symm⟩
theorem cnt_split {P Q : Nat → Prop} : ∀ n : Nat, cnt n P = cnt n (fun x => P x ∧ Q x) + cnt n (fun x => P x ∧ ¬ Q x)
  | 0 => rfl
  | n + 1 => by
    rw [cnt_succ, cnt_succ, cnt_succ, cnt_split (Q := Q) n]
    by_cases p : P n
    · by_cases q : Q n
      · rw [pr_t p, pr_t ⟨p, q⟩, pr_f (fun k : P n ∧ ¬ Q n => k.2 q)]; omega
      · rw [pr_t p, pr_f (fun k : P n ∧ Q n => q k.2), pr_t ⟨p, q⟩]; omega
    · rw [pr_f p, pr_f (fun k : P n ∧ Q n => p k.1), pr_f (fun k : P n ∧ ¬ Q n => p k.1)]; omega
theorem cnt_first {P : Nat → Prop} (m : Nat) : ∀ n : Nat, cnt n (fun s => P s ∧ cnt s P < m) = min m (cnt n P)
  | 0 => by simp [cnt, sumN]
  | n + 1 => by
    rw [cnt_succ, cnt_succ, cnt_first m n]
    by_cases p : P n
    · by_cases q : cnt n P < m
      · rw [pr_t p, pr_t ⟨p, q⟩]; omega
      · rw [pr_t p, pr_f (fun k : P n ∧ cnt n P < m => q k.2)]; omega
    · rw [pr_f p, pr_f (fun k : P n ∧ cnt n P < m => p k.1)]; omega
/-- labels: points that R joins have one label, and no more than must -/
def Lb (R : Nat → Nat → Prop) (gr : Nat → Int32) : Prop :=
  (∀ x, x < 40 → ∃ y, y < 40 ∧ gr x = nI y) ∧ (∀ x y, x < 40 → y < 40 → R x y → gr x = gr y) ∧
  (∀ Y : Nat → Prop, (∀ x y, R x y → (Y x ↔ Y y)) → ∀ x y, x < 40 → y < 40 → gr x = gr y → (Y x ↔ Y y))
theorem Lb_id {gr : Nat → Int32} (h : ∀ x, x < 40 → gr x = nI x) {R : Nat → Nat → Prop} (hR : ∀ x y, ¬ R x y) : Lb R gr :=
  ⟨fun x hx => ⟨x, hx, h x hx⟩, fun x y _ _ k => absurd k (hR x y), fun Y _ x y hx hy e => by
    rw [h x hx, h y hy, zI_eq (by omega) (by omega)] at e
    rw [e]⟩
theorem Lb_congr {R R' : Nat → Nat → Prop} {gr : Nat → Int32} (L : Lb R gr) (h : ∀ x y, R x y ↔ R' x y) : Lb R' gr :=
  ⟨L.1, fun x y hx hy k => L.2.1 x y hx hy ((h x y).mpr k), fun Y k => L.2.2 Y (fun x y r => k x y ((h x y).mp r))⟩
theorem sp_same {R : Nat → Nat → Prop} {gr : Nat → Int32} {a b : Nat} {post : (Nat → Int32) → Prop} (L : Lb R gr) (ha : a < 40) (hb : b < 40) (h : ∀ gr', Lb (fun x y => R x y ∨ (x = a ∧ y = b)) gr' → post gr') : wp_Model_same gr (nI a) (nI b) post := by
  unfold wp_Model_same
  rw [ix_nI (by omega), ix_nI (by omega)]
  refine ⟨(in_nI (by omega)).mpr ha, (in_nI (by omega)).mpr hb, ?_⟩
  refine for2 40 (fun k g' => (∀ x, x < k → (gr x = gr a → g' x = gr b) ∧ (gr x ≠ gr a → g' x = gr x)) ∧ (∀ x, k ≤ x → g' x = gr x)) (by omega) 0 gr (by omega) ⟨fun x k => absurd k (by omega), fun _ _ => rfl⟩ (fun K k g' hk hJ nx => ⟨fun q => ?_, fun q => ?_⟩)
  · rw [L40, zI_le (by omega) (by omega)] at q
    have : k = 40 := by omega
    subst this
    obtain ⟨l1, l2, l3⟩ := L
    have f : ∀ x, x < 40 → (gr x = gr a ∧ g' x = gr b) ∨ (gr x ≠ gr a ∧ g' x = gr x) := fun x hx => by
      by_cases z : gr x = gr a
      · exact Or.inl ⟨z, (hJ.1 x hx).1 z⟩
      · exact Or.inr ⟨z, (hJ.1 x hx).2 z⟩
    refine h g' ⟨fun x hx => ?_, fun x y hx hy k => ?_, fun Y hY x y hx hy e => ?_⟩
    · rcases f x hx with ⟨-, e⟩ | ⟨-, e⟩
      · rw [e]; exact l1 b hb
      · rw [e]; exact l1 x hx
    · rcases k with k | ⟨rfl, rfl⟩
      · have e := l2 x y hx hy k
        rcases f x hx with ⟨e1, e2⟩ | ⟨e1, e2⟩ <;> rcases f y hy with ⟨e3, e4⟩ | ⟨e3, e4⟩
        · rw [e2, e4]
        · exact absurd (e.symm.trans e1) e3
        · exact absurd (e.trans e3) e1
        · rw [e2, e4, e]
      · rcases f x hx with ⟨e1, e2⟩ | ⟨e1, e2⟩
        · rcases f y hy with ⟨e3, e4⟩ | ⟨e3, e4⟩
          · rw [e2, e4]
          · rw [e2, e4]
        · exact absurd rfl e1
    · have hY' : ∀ x y, R x y → (Y x ↔ Y y) := fun x y k => hY x y (Or.inl k)
      have yab : Y a ↔ Y b := hY a b (Or.inr ⟨rfl, rfl⟩)
      have c := l3 Y hY'
      rcases f x hx with ⟨e1, e2⟩ | ⟨e1, e2⟩ <;> rcases f y hy with ⟨e3, e4⟩ | ⟨e3, e4⟩
      · exact c x y hx hy (e1.trans e3.symm)
      · rw [e2, e4] at e
        exact (c x a hx ha e1).trans (yab.trans (c b y hb hy e))
      · rw [e2, e4] at e
        exact ((c x b hx hb e).trans yab.symm).trans (c y a hy ha e3).symm
      · rw [e2, e4] at e
        exact c x y hx hy e
  · rw [L40, zI_le (by omega) (by omega)] at q
    have ik : vp_in (nI k) 40 := (in_nI (by omega)).mpr (by omega)
    rw [zI_succ, ix_nI (by omega), hJ.2 k (Nat.le_refl _)]
    refine ⟨ik, fun z => ⟨ik, ik, fun g6 e6 => nx (by omega) g6 ⟨fun x hx => ?_, fun x hx => ?_⟩⟩, fun z => ⟨ik, fun g8 e8 => nx (by omega) g8 ⟨fun x hx => ?_, fun x hx => ?_⟩⟩⟩
    · by_cases y : x = k
      · subst y
        exact ⟨fun k => absurd k z, fun _ => by rw [e6, upd_at]⟩
      · rw [e6, upd_ne y]; exact hJ.1 x (by omega)
    · rw [e6, upd_ne (by omega)]; exact hJ.2 x (by omega)
    · by_cases y : x = k
      · subst y
        exact ⟨fun _ => by rw [e8, upd_at], fun k => absurd z k⟩
      · rw [e8, upd_ne y]; exact hJ.1 x (by omega)
    · rw [e8, upd_ne (by omega)]; exact hJ.2 x (by omega)
/-- slot s lies between u and v -/
def btw (U V : Nat → Nat) (u v s : Nat) : Prop := (U s = u ∨ V s = u) ∧ (U s = v ∨ V s = v)
/-- the end of slot s that is neither u nor v, if it has one -/
def oe (U V : Nat → Nat) (u v s : Nat) : Nat := if U s = u ∨ U s = v then V s else U s
section
variable {one two : Nat → Int32} {i u v : Nat}
theorem sp_touches {post : Int32 → Prop} (hi : i < 320) (e1 : one i = nI (en one i)) (e2 : two i = nI (en two i)) (h1 : en one i < 40) (h2 : en two i < 40) (hu : u < 2147483648) (p1 : (en one i = u ∨ en two i = u) → post 1) (p0 : ¬ (en one i = u ∨ en two i = u) → post 0) : wp_Model_touches one two (nI i) (nI u) post := by
  unfold wp_Model_touches
  have ii : vp_in (nI i) 320 := (in_nI (by omega)).mpr hi
  rw [ix_nI (by omega), e1, e2, zI_eq (by omega) hu, zI_eq (by omega) hu]
  exact ⟨ii, fun k => p1 (Or.inl k), fun k => ⟨ii, fun k' => p0 (by omega), fun k' => p1 (Or.inr k')⟩⟩
theorem sp_isBetween {post : Int32 → Prop} (hi : i < 320) (e1 : one i = nI (en one i)) (e2 : two i = nI (en two i)) (h1 : en one i < 40) (h2 : en two i < 40) (hu : u < 2147483648) (hv : v < 2147483648) (p1 : btw (en one) (en two) u v i → post 1) (p0 : ¬ btw (en one) (en two) u v i → post 0) : wp_Model_isBetween one two (nI i) (nI u) (nI v) post := by
  unfold wp_Model_isBetween
  refine sp_touches hi e1 e2 h1 h2 hu (fun k => ⟨fun z => absurd z (by decide), fun _ => sp_touches hi e1 e2 h1 h2 hv (fun k' => ⟨fun z => absurd z (by decide), fun _ => p1 ⟨k, k'⟩⟩) (fun k' => ⟨fun _ => p0 (fun z => k' z.2), fun z => absurd rfl z⟩)⟩) (fun k => ⟨fun _ => p0 (fun z => k z.1), fun z => absurd rfl z⟩)
theorem sp_groupOf {gr : Nat → Int32} {post : Int32 → Prop} (hi : i < 320) (e1 : one i = nI (en one i)) (e2 : two i = nI (en two i)) (h1 : en one i < 40) (h2 : en two i < 40) (hu : u < 2147483648) (hv : v < 2147483648) (p1 : btw (en one) (en two) u v i → post (-1)) (p0 : ¬ btw (en one) (en two) u v i → post (gr (oe (en one) (en two) u v i))) : wp_Model_groupOf one two gr (nI i) (nI u) (nI v) post := by
  have ii : vp_in (nI i) 320 := (in_nI (by omega)).mpr hi
  have j1 : vp_in (nI (en one i)) 40 := (in_nI (by omega)).mpr h1
  have j2 : vp_in (nI (en two i)) 40 := (in_nI (by omega)).mpr h2
  unfold wp_Model_groupOf
  rw [ix_nI (show i < 2147483648 by omega), e1, e2, zI_eq (by omega) hu, zI_eq (by omega) hv, ix_nI (by omega), ix_nI (by omega)]
  refine sp_isBetween hi e1 e2 h1 h2 hu hv (fun k => ⟨fun z => absurd z (by decide), fun _ => p1 k⟩) (fun k => ⟨fun _ => ?_, fun z => absurd rfl z⟩)
  have q := p0 k
  unfold oe at q
  have s1 : (en one i = u ∨ en one i = v) → post (gr (en two i)) := fun z => by rw [if_pos z] at q; exact q
  have s0 : ¬ (en one i = u ∨ en one i = v) → post (gr (en one i)) := fun z => by rw [if_neg z] at q; exact q
  refine sp_touches hi e1 e2 h1 h2 hu (fun k1 => ⟨fun _ => ⟨ii, fun z => ⟨ii, j2, s1 (Or.inl z)⟩, fun z => ⟨ii, fun y => ⟨ii, j1, s0 (by omega)⟩, fun y => ⟨ii, j2, s1 (Or.inr y)⟩⟩⟩, fun z => absurd z (by decide)⟩) (fun k1 => ⟨fun z => absurd rfl z, fun _ => ?_⟩)
  exact sp_touches hi e1 e2 h1 h2 hv (fun k2 => ⟨fun z => absurd z (by decide), fun _ => ⟨ii, fun z => ⟨ii, j2, s1 (Or.inl z)⟩, fun z => ⟨ii, fun y => ⟨ii, j1, s0 (by omega)⟩, fun y => ⟨ii, j2, s1 (Or.inr y)⟩⟩⟩⟩) (fun k2 => ⟨fun _ => ⟨ii, j1, s0 (by omega)⟩, fun z => absurd rfl z⟩)
end
/-- what R of a piece's slots: those at neither u nor v join their ends -/
def Rl (T : Nat → Prop) (U V : Nat → Nat) (u v x y : Nat) : Prop := ∃ s, T s ∧ ¬ (U s = u ∨ V s = u) ∧ ¬ (U s = v ∨ V s = v) ∧ x = U s ∧ y = V s
section
variable {T : Nat → Prop} {U V : Nat → Nat} {gr : Nat → Int32} {u v : Nat}
theorem oe_end {s : Nat} (d : U s ≠ V s) (nb : ¬ btw U V u v s) : (oe U V u v s = U s ∨ oe U V u v s = V s) ∧ oe U V u v s ≠ u ∧ oe U V u v s ≠ v := by
  unfold oe btw at *
  by_cases z : U s = u ∨ U s = v
  · rw [if_pos z]; omega
  · rw [if_neg z]; omega
/-- all slots at a point other than u, v have its label -/
theorem lab_end (huv : u ≠ v) (L : Lb (Rl T U V u v) gr) (e40 : ∀ s, T s → U s < 40 ∧ V s < 40 ∧ U s ≠ V s) {s x : Nat} (hs : T s) (kx : x = U s ∨ x = V s) (xu : x ≠ u) (xv : x ≠ v) : ¬ btw U V u v s ∧ gr (oe U V u v s) = gr x := by
  have d := e40 s hs
  refine ⟨fun k => by unfold btw at k; omega, ?_⟩
  unfold oe
  by_cases z : U s = u ∨ U s = v
  · rw [if_pos z]
    have : x = V s := by omega
    rw [this]
  · rw [if_neg z]
    by_cases y : x = U s
    · rw [y]
    · have y' : x = V s := by omega
      rw [y']
      exact L.2.1 _ _ d.1 d.2.1 ⟨s, hs, by omega, by omega, rfl, rfl⟩
theorem lab_com (huv : u ≠ v) (L : Lb (Rl T U V u v) gr) (e40 : ∀ s, T s → U s < 40 ∧ V s < 40 ∧ U s ≠ V s) {g : Int32} : ∀ s t x, T s → T t → (¬ btw U V u v s ∧ gr (oe U V u v s) = g) → ¬ (¬ btw U V u v t ∧ gr (oe U V u v t) = g) → (x = U s ∨ x = V s) → (x = U t ∨ x = V t) → x = u ∨ x = v := fun s t x hs ht qs qt ks kt => Classical.byContradiction fun z => by
  have a := lab_end huv L e40 hs ks (fun k => z (Or.inl k)) (fun k => z (Or.inr k))
  have b := lab_end huv L e40 ht kt (fun k => z (Or.inl k)) (fun k => z (Or.inr k))
  exact qt ⟨b.1, b.2.trans (a.2.symm.trans qs.2)⟩
/-- if no group parts the piece, nothing does -/
theorem no_part (huv : u ≠ v) {N : Nat} (hN : ∀ s, T s → s < N) (L : Lb (Rl T U V u v) gr) (e40 : ∀ s, T s → U s < 40 ∧ V s < 40 ∧ U s ≠ V s) (two : ∀ s y, T s → (y = U s ∨ y = V s) → ∃ t, T t ∧ t ≠ s ∧ (y = U t ∨ y = V t))
    (h1 : ∀ g, g < 40 → 2 ≤ cnt N (fun s => T s ∧ ¬ btw U V u v s ∧ gr (oe U V u v s) = nI g) → cnt N T ≤ cnt N (fun s => T s ∧ ¬ btw U V u v s ∧ gr (oe U V u v s) = nI g) + 1)
    (h2 : 4 ≤ cnt N T → cnt N (fun s => T s ∧ btw U V u v s) ≤ 1) : ¬ Spl T U V u v := by
  rintro ⟨Q, ⟨a, b, ha, hb, qa, qb, ab⟩, ⟨c, d, hc, hd, nc, nd, cd⟩, com⟩
  have h4 : 4 ≤ cnt N T := cnt_ge4 (hN a ha) (hN b hb) (hN c hc) (hN d hd) ab (fun k => nc (k ▸ qa)) (fun k => nd (k ▸ qa)) (fun k => nc (k ▸ qb)) (fun k => nd (k ▸ qb)) cd ha hb hc hd
  have al := h2 h4
  have : ∃ s, T s ∧ Q s ∧ ¬ btw U V u v s := Classical.byContradiction fun z => by
    have ba : btw U V u v a := Classical.byContradiction fun k => z ⟨a, ha, qa, k⟩
    have bb : btw U V u v b := Classical.byContradiction fun k => z ⟨b, hb, qb, k⟩
    have := cnt_ge2 (n := N) (P := fun s => T s ∧ btw U V u v s) (hN a ha) (hN b hb) ab ⟨ha, ba⟩ ⟨hb, bb⟩
    omega
  obtain ⟨s, hs, qs, nb⟩ := this
  obtain ⟨o1, o2, o3⟩ := oe_end (e40 s hs).2.2 nb
  have o40 : ∀ t, T t → oe U V u v t < 40 := fun t ht => by
    have := e40 t ht
    unfold oe
    by_cases z : U t = u ∨ U t = v
    · rw [if_pos z]; omega
    · rw [if_neg z]; omega
  obtain ⟨g, hg, eg⟩ := L.1 _ (o40 s hs)
  -- its group lies in Q
  have allQ : ∀ t, T t → ¬ btw U V u v t → gr (oe U V u v t) = nI g → Q t := fun t ht nbt et => by
    have c := L.2.2 (fun x => x ≠ u ∧ x ≠ v ∧ ∀ t, T t → (x = U t ∨ x = V t) → Q t) (fun x y ⟨r, hr, r1, r2, r3, r4⟩ => by
      have step : ∀ x y, (x = U r ∨ x = V r) → (y = U r ∨ y = V r) → (x ≠ u ∧ x ≠ v ∧ ∀ t, T t → (x = U t ∨ x = V t) → Q t) → (y ≠ u ∧ y ≠ v ∧ ∀ t, T t → (y = U t ∨ y = V t) → Q t) := fun x y kx ky ⟨_, _, k⟩ => by
        refine ⟨by omega, by omega, fun t ht kt => Classical.byContradiction fun z => ?_⟩
        have := com r t y hr ht (k r hr kx) z ky kt
        omega
      exact ⟨step x y (Or.inl r3) (Or.inr r4), step y x (Or.inr r4) (Or.inl r3)⟩) _ _ (o40 s hs) (o40 t ht) (eg.trans et.symm)
    have ys : oe U V u v s ≠ u ∧ oe U V u v s ≠ v ∧ ∀ t, T t → (oe U V u v s = U t ∨ oe U V u v s = V t) → Q t := ⟨o2, o3, fun t ht kt => Classical.byContradiction fun z => by
      have := com s t _ hs ht qs z o1 kt
      omega⟩
    obtain ⟨p1, -, -⟩ := oe_end (e40 t ht).2.2 nbt
    exact (c.mp ys).2.2 t ht p1
  -- it has two slots at least
  obtain ⟨t, ht, ts, kt⟩ := two s _ hs o1
  have lt := lab_end huv L e40 ht kt o2 o3
  have m2 := cnt_ge2 (n := N) (P := fun s => T s ∧ ¬ btw U V u v s ∧ gr (oe U V u v s) = nI g) (hN s hs) (hN t ht) (fun k => ts k.symm) ⟨hs, nb, eg⟩ ⟨ht, lt.1, lt.2.trans eg⟩
  have le := h1 g hg m2
  have sp := cnt_split (P := T) (Q := fun s => ¬ btw U V u v s ∧ gr (oe U V u v s) = nI g) N
  have r2 := cnt_ge2 (n := N) (P := fun s => T s ∧ ¬ (¬ btw U V u v s ∧ gr (oe U V u v s) = nI g)) (hN c hc) (hN d hd) cd ⟨hc, fun k => nc (allQ c hc k.1 k.2)⟩ ⟨hd, fun k => nd (allQ d hd k.1 k.2)⟩
  omega
end
