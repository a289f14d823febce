/-! PURE PART I: edge sets, their boundaries, and why a tree of bonds, rings and rigid pieces is the only one. -/
noncomputable def pr (p : Prop) : Nat := @ite Nat p (Classical.propDecidable p) 1 0
theorem pr_t {p : Prop} (h : p) : pr p = 1 := by unfold pr; exact @if_pos _ (Classical.propDecidable p) h _ _ _
theorem pr_f {p : Prop} (h : ¬ p) : pr p = 0 := by unfold pr; exact @if_neg _ (Classical.propDecidable p) h _ _ _
theorem pr_le (p : Prop) : pr p ≤ 1 := by
  by_cases h : p
  · rw [pr_t h]; omega
  · rw [pr_f h]; omega
theorem pr_mono {p q : Prop} (h : p → q) : pr p ≤ pr q := by
  by_cases hp : p
  · rw [pr_t hp, pr_t (h hp)]; omega
  · rw [pr_f hp]; omega
theorem pr_congr {p q : Prop} (h : p ↔ q) : pr p = pr q := by rw [propext h]
/-- sums over 0 .. n - 1 -/
def sumN : Nat → (Nat → Nat) → Nat
  | 0, _ => 0
  | n + 1, g => sumN n g + g n
theorem sumN_le {g k : Nat → Nat} : ∀ (n : Nat), (∀ x, x < n → g x ≤ k x) → sumN n g ≤ sumN n k
  | 0, _ => Nat.le_refl _
  | n + 1, h => Nat.add_le_add (sumN_le n (fun x hx => h x (by omega))) (h n (by omega))
theorem sumN_congr {g k : Nat → Nat} : ∀ (n : Nat), (∀ x, x < n → g x = k x) → sumN n g = sumN n k
  | 0, _ => rfl
  | n + 1, h => by
    show sumN n g + g n = sumN n k + k n
    rw [sumN_congr n (fun x hx => h x (by omega)), h n (by omega)]
theorem sumN_add {g k : Nat → Nat} : ∀ (n : Nat), sumN n (fun x => g x + k x) = sumN n g + sumN n k
  | 0 => rfl
  | n + 1 => by
    show sumN n (fun x => g x + k x) + (g n + k n) = (sumN n g + g n) + (sumN n k + k n)
    rw [sumN_add n]; omega
theorem sumN_zero {g : Nat → Nat} : ∀ (n : Nat), (∀ x, x < n → g x = 0) → sumN n g = 0
  | 0, _ => rfl
  | n + 1, h => by
    show sumN n g + g n = 0
    rw [sumN_zero n (fun x hx => h x (by omega)), h n (by omega)]
theorem sumN_one {g : Nat → Nat} {u : Nat} : ∀ (n : Nat), u < n → (∀ x, x < n → x ≠ u → g x = 0) → sumN n g = g u
  | 0, h, _ => by omega
  | n + 1, h, h0 => by
    show sumN n g + g n = g u
    by_cases hu : u = n
    · subst hu; rw [sumN_zero u (fun x hx => h0 x (by omega) (by omega))]; omega
    · rw [sumN_one n (by omega) (fun x hx hn => h0 x (by omega) hn), h0 n (by omega) (by omega)]; omega
/-- how many x below n have P -/
noncomputable def cnt (n : Nat) (P : Nat → Prop) : Nat := sumN n (fun x => pr (P x))
theorem cnt_mono {n : Nat} {P Q : Nat → Prop} (h : ∀ x, x < n → P x → Q x) : cnt n P ≤ cnt n Q := sumN_le n (fun x hx => pr_mono (h x hx))
theorem cnt_congr {n : Nat} {P Q : Nat → Prop} (h : ∀ x, x < n → (P x ↔ Q x)) : cnt n P = cnt n Q := sumN_congr n (fun x hx => pr_congr (h x hx))
theorem cnt_rem {n : Nat} {P : Nat → Prop} {u : Nat} (hu : u < n) (h : P u) : cnt n P = cnt n (fun x => P x ∧ x ≠ u) + 1 := by
  have h1 : sumN n (fun x => pr (P x)) = sumN n (fun x => pr (P x ∧ x ≠ u) + pr (x = u)) := sumN_congr n (fun x _ => by
    by_cases hx : x = u
    · subst hx; rw [pr_t h, pr_t rfl, pr_f (fun q => q.2 rfl)]
    · rw [pr_f hx]; exact pr_congr ⟨fun q => ⟨q, hx⟩, fun q => q.1⟩)
  have h2 : sumN n (fun x => pr (x = u)) = 1 := by
    rw [sumN_one n hu (fun x _ hx => pr_f hx), pr_t rfl]
  unfold cnt
  rw [h1, sumN_add, h2]
theorem cnt_none {n : Nat} {P : Nat → Prop} (h : ∀ x, x < n → ¬ P x) : cnt n P = 0 := sumN_zero n (fun x hx => pr_f (h x hx))
theorem cnt_some {n : Nat} {P : Nat → Prop} (h : 0 < cnt n P) : ∃ x, x < n ∧ P x := Classical.byContradiction fun hn => by
  have := cnt_none (n := n) (P := P) (fun x hx hp => hn ⟨x, hx, hp⟩)
  omega
theorem cnt_zero {n : Nat} {P : Nat → Prop} (h : cnt n P = 0) {x : Nat} (hx : x < n) : ¬ P x := fun hp => by
  have := cnt_rem hx hp; omega
theorem cnt_all {P : Nat → Prop} : ∀ n : Nat, (∀ x, x < n → P x) → cnt n P = n
  | 0, _ => rfl
  | n + 1, h => by
    show cnt n P + pr (P n) = n + 1
    rw [cnt_all n (fun x hx => h x (by omega)), pr_t (h n (by omega))]
theorem cnt_le (n : Nat) (P : Nat → Prop) : cnt n P ≤ n := by
  have h := cnt_mono (n := n) (P := P) (Q := fun _ => True) (fun _ _ _ => trivial)
  rw [cnt_all n (fun _ _ => trivial)] at h
  exact h
theorem cnt_ge2 {n : Nat} {P : Nat → Prop} {u v : Nat} (hu : u < n) (hv : v < n) (huv : u ≠ v) (h1 : P u) (h2 : P v) : 2 ≤ cnt n P := by
  have a := cnt_rem hu h1
  have b := cnt_rem (P := fun x => P x ∧ x ≠ u) hv ⟨h2, fun h => huv h.symm⟩
  omega
theorem cnt_ge3 {n : Nat} {P : Nat → Prop} {u v w : Nat} (hu : u < n) (hv : v < n) (hw : w < n) (huv : u ≠ v) (huw : u ≠ w) (hvw : v ≠ w) (h1 : P u) (h2 : P v) (h3 : P w) : 3 ≤ cnt n P := by
  have a := cnt_rem hu h1
  have b := cnt_ge2 (P := fun x => P x ∧ x ≠ u) hv hw hvw ⟨h2, fun h => huv h.symm⟩ ⟨h3, fun h => huw h.symm⟩
  omega
theorem cnt_le2 {n : Nat} {P : Nat → Prop} {u v : Nat} (h : ∀ x, x < n → P x → x = u ∨ x = v) : cnt n P ≤ 2 := Classical.byContradiction fun hn => by
  obtain ⟨a, ha, pa⟩ := cnt_some (n := n) (P := P) (by omega)
  have e1 := cnt_rem ha pa
  obtain ⟨b, hb, pb⟩ := cnt_some (n := n) (P := fun x => P x ∧ x ≠ a) (by omega)
  have e2 := cnt_rem (P := fun x => P x ∧ x ≠ a) hb pb
  obtain ⟨c, hc, pc⟩ := cnt_some (n := n) (P := fun x => (P x ∧ x ≠ a) ∧ x ≠ b) (by omega)
  have := h a ha pa
  have := h b hb pb.1
  have := h c hc pc.1.1
  have := pb.2
  have := pc.1.2
  have := pc.2
  omega
theorem cnt_le1 {n : Nat} {P : Nat → Prop} {u : Nat} (h : ∀ x, x < n → P x → x = u) : cnt n P ≤ 1 := Classical.byContradiction fun hn => by
  obtain ⟨a, ha, pa⟩ := cnt_some (n := n) (P := P) (by omega)
  have e1 := cnt_rem ha pa
  obtain ⟨b, hb, pb⟩ := cnt_some (n := n) (P := fun x => P x ∧ x ≠ a) (by omega)
  have := h a ha pa
  have := h b hb pb.1
  have := pb.2
  omega
theorem cnt_two {n : Nat} {P : Nat → Prop} (h : cnt n P = 2) : ∃ u v, u < v ∧ v < n ∧ P u ∧ P v ∧ ∀ x, x < n → P x → x = u ∨ x = v := by
  obtain ⟨a, ha, pa⟩ := cnt_some (n := n) (P := P) (by omega)
  have e1 := cnt_rem ha pa
  obtain ⟨b, hb, pb⟩ := cnt_some (n := n) (P := fun x => P x ∧ x ≠ a) (by omega)
  have e2 := cnt_rem (P := fun x => P x ∧ x ≠ a) hb pb
  have hall : ∀ x, x < n → P x → x = a ∨ x = b := fun x hx px => Classical.byContradiction fun hn => by
    refine cnt_zero (n := n) (P := fun x => (P x ∧ x ≠ a) ∧ x ≠ b) (by omega) hx ⟨⟨px, fun q => hn (Or.inl q)⟩, fun q => hn (Or.inr q)⟩
  rcases Nat.lt_or_gt_of_ne pb.2 with h1 | h1
  · exact ⟨b, a, h1, ha, pb.1, pa, fun x hx px => (hall x hx px).symm⟩
  · exact ⟨a, b, h1, hb, pa, pb.1, hall⟩
theorem cnt_eq {n : Nat} {P Q : Nat → Prop} (h : ∀ x, x < n → P x → Q x) (hc : cnt n Q ≤ cnt n P) : ∀ x, x < n → Q x → P x := fun x hx hq => Classical.byContradiction fun hn => by
  have h1 := cnt_rem hx hq
  have h2 := cnt_mono (n := n) (P := P) (Q := fun y => Q y ∧ y ≠ x) (fun y hy py => ⟨h y hy py, fun e => hn (e ▸ py)⟩)
  omega
theorem cnt_or {n : Nat} {P Q : Nat → Prop} : cnt n (fun x => P x ∨ Q x) ≤ cnt n P + cnt n Q := by
  unfold cnt
  rw [← sumN_add]
  refine sumN_le n (fun x _ => ?_)
  show pr (P x ∨ Q x) ≤ pr (P x) + pr (Q x)
  by_cases h1 : P x
  · have := pr_le (P x ∨ Q x); rw [pr_t h1]; omega
  · by_cases h2 : Q x
    · have := pr_le (P x ∨ Q x); rw [pr_t h2]; omega
    · rw [pr_f (fun h => h.elim h1 h2)]; omega
theorem cnt_lt {n : Nat} {P Q : Nat → Prop} (h : ∀ x, x < n → P x → Q x) {u : Nat} (hu : u < n) (h1 : Q u) (h2 : ¬ P u) : cnt n P < cnt n Q := by
  rcases Nat.lt_or_ge (cnt n P) (cnt n Q) with h3 | h3
  · exact h3
  · exact absurd (cnt_eq h h3 u hu h1) h2
/-- the points where X meets the other edges -/
def bdy (E : Nat → Prop) (I : Nat → Nat → Prop) (X : Nat → Prop) (x : Nat) : Prop := (∃ e, E e ∧ X e ∧ I e x) ∧ (∃ e, E e ∧ ¬ X e ∧ I e x)
noncomputable def fn (E : Nat → Prop) (I : Nat → Nat → Prop) (X : Nat → Prop) : Nat := cnt 40 (bdy E I X)
theorem bdy_congr {E : Nat → Prop} {I : Nat → Nat → Prop} {X Y : Nat → Prop} (h : ∀ e, E e → (X e ↔ Y e)) (x : Nat) : bdy E I X x ↔ bdy E I Y x :=
  ⟨fun ⟨⟨e, he, hx, hi⟩, ⟨e', he', hx', hi'⟩⟩ => ⟨⟨e, he, (h e he).mp hx, hi⟩, ⟨e', he', fun q => hx' ((h e' he').mpr q), hi'⟩⟩,
   fun ⟨⟨e, he, hx, hi⟩, ⟨e', he', hx', hi'⟩⟩ => ⟨⟨e, he, (h e he).mpr hx, hi⟩, ⟨e', he', fun q => hx' ((h e' he').mp q), hi'⟩⟩⟩
theorem bdy_not {E : Nat → Prop} {I : Nat → Nat → Prop} {X : Nat → Prop} (x : Nat) : bdy E I (fun e => ¬ X e) x ↔ bdy E I X x :=
  ⟨fun ⟨⟨e, he, hx, hi⟩, ⟨e', he', hx', hi'⟩⟩ => ⟨⟨e', he', Classical.not_not.mp hx', hi'⟩, ⟨e, he, hx, hi⟩⟩,
   fun ⟨⟨e, he, hx, hi⟩, ⟨e', he', hx', hi'⟩⟩ => ⟨⟨e', he', hx', hi'⟩, ⟨e, he, fun q => q hx, hi⟩⟩⟩
theorem fn_congr {E : Nat → Prop} {I : Nat → Nat → Prop} {X Y : Nat → Prop} (h : ∀ e, E e → (X e ↔ Y e)) : fn E I X = fn E I Y := cnt_congr (fun x _ => bdy_congr h x)
theorem fn_not {E : Nat → Prop} {I : Nat → Nat → Prop} {X : Nat → Prop} : fn E I (fun e => ¬ X e) = fn E I X := cnt_congr (fun x _ => bdy_not x)
theorem bdy_sub {E : Nat → Prop} {I : Nat → Nat → Prop} {X Y : Nat → Prop} (x : Nat) : pr (bdy E I (fun e => X e ∧ Y e) x) + pr (bdy E I (fun e => X e ∨ Y e) x) ≤ pr (bdy E I X x) + pr (bdy E I Y x) := by
  by_cases h1 : bdy E I X x
  · by_cases h2 : bdy E I Y x
    · rw [pr_t h1, pr_t h2]
      have := pr_le (bdy E I (fun e => X e ∧ Y e) x); have := pr_le (bdy E I (fun e => X e ∨ Y e) x); omega
    · rw [pr_t h1, pr_f h2]
      by_cases h3 : bdy E I (fun e => X e ∧ Y e) x
      · have : ¬ bdy E I (fun e => X e ∨ Y e) x := fun ⟨_, ⟨e, he, hn, hi⟩⟩ => by
          obtain ⟨⟨e', he', hx', hi'⟩, -⟩ := h3
          exact h2 ⟨⟨e', he', hx'.2, hi'⟩, ⟨e, he, fun q => hn (Or.inr q), hi⟩⟩
        rw [pr_f this, pr_t h3]; omega
      · have := pr_le (bdy E I (fun e => X e ∨ Y e) x); rw [pr_f h3]; omega
  · by_cases h2 : bdy E I Y x
    · rw [pr_f h1, pr_t h2]
      by_cases h3 : bdy E I (fun e => X e ∧ Y e) x
      · have : ¬ bdy E I (fun e => X e ∨ Y e) x := fun ⟨_, ⟨e, he, hn, hi⟩⟩ => by
          obtain ⟨⟨e', he', hx', hi'⟩, -⟩ := h3
          exact h1 ⟨⟨e', he', hx'.1, hi'⟩, ⟨e, he, fun q => hn (Or.inl q), hi⟩⟩
        rw [pr_f this, pr_t h3]; omega
      · have := pr_le (bdy E I (fun e => X e ∨ Y e) x); rw [pr_f h3]; omega
    · have h3 : ¬ bdy E I (fun e => X e ∧ Y e) x := fun ⟨⟨e, he, hx, hi⟩, ⟨e', he', hx', hi'⟩⟩ => by
        by_cases q : X e'
        · exact h2 ⟨⟨e, he, hx.2, hi⟩, ⟨e', he', fun r => hx' ⟨q, r⟩, hi'⟩⟩
        · exact h1 ⟨⟨e, he, hx.1, hi⟩, ⟨e', he', q, hi'⟩⟩
      have h4 : ¬ bdy E I (fun e => X e ∨ Y e) x := fun ⟨⟨e, he, hx, hi⟩, ⟨e', he', hx', hi'⟩⟩ => by
        rcases hx with q | q
        · exact h1 ⟨⟨e, he, q, hi⟩, ⟨e', he', fun r => hx' (Or.inl r), hi'⟩⟩
        · exact h2 ⟨⟨e, he, q, hi⟩, ⟨e', he', fun r => hx' (Or.inr r), hi'⟩⟩
      rw [pr_f h1, pr_f h2, pr_f h3, pr_f h4]; omega
theorem fn_sub {E : Nat → Prop} {I : Nat → Nat → Prop} (X Y : Nat → Prop) : fn E I (fun e => X e ∧ Y e) + fn E I (fun e => X e ∨ Y e) ≤ fn E I X + fn E I Y := by
  unfold fn cnt
  rw [← sumN_add, ← sumN_add]
  exact sumN_le 40 (fun x _ => bdy_sub x)
/-- any two-part cut of the edges has two points in common at least -/
def Two (E : Nat → Prop) (I : Nat → Nat → Prop) : Prop := ∀ X : Nat → Prop, (∃ e, E e ∧ X e) → (∃ e, E e ∧ ¬ X e) → 2 ≤ fn E I X
def crs (E : Nat → Prop) (X Y : Nat → Prop) : Prop := (∃ e, E e ∧ X e ∧ Y e) ∧ (∃ e, E e ∧ X e ∧ ¬ Y e) ∧ (∃ e, E e ∧ ¬ X e ∧ Y e) ∧ (∃ e, E e ∧ ¬ X e ∧ ¬ Y e)
def big (E : Nat → Prop) (X : Nat → Prop) : Prop := ∃ e e', E e ∧ E e' ∧ X e ∧ X e' ∧ e ≠ e'
theorem quad {E : Nat → Prop} {I : Nat → Nat → Prop} (h2 : Two E I) {A C : Nat → Prop} (hA : fn E I A = 2) (hC : fn E I C = 2) (hc : crs E A C) :
    fn E I (fun e => A e ∧ C e) = 2 ∧ fn E I (fun e => A e ∧ ¬ C e) = 2 ∧ fn E I (fun e => ¬ A e ∧ C e) = 2 ∧ fn E I (fun e => ¬ A e ∧ ¬ C e) = 2 := by
  obtain ⟨⟨p, hp, p1, p2⟩, ⟨q, hq, q1, q2⟩, ⟨r, hr, r1, r2⟩, ⟨w, hw, w1, w2⟩⟩ := hc
  have key : ∀ (X Y : Nat → Prop), fn E I X = 2 → fn E I Y = 2 → (∃ e, E e ∧ X e ∧ Y e) → (∃ e, E e ∧ ¬ X e ∧ ¬ Y e) → fn E I (fun e => X e ∧ Y e) = 2 := fun X Y hX hY ⟨e1, m1, n1, o1⟩ ⟨e2, m2, n2, o2⟩ => by
    have a := fn_sub (E := E) (I := I) X Y
    have b := h2 (fun e => X e ∧ Y e) ⟨e1, m1, n1, o1⟩ ⟨e2, m2, fun q => n2 q.1⟩
    have c := h2 (fun e => X e ∨ Y e) ⟨e1, m1, Or.inl n1⟩ ⟨e2, m2, fun q => q.elim n2 o2⟩
    omega
  have nA : fn E I (fun e => ¬ A e) = 2 := by rw [fn_not]; exact hA
  have nC : fn E I (fun e => ¬ C e) = 2 := by rw [fn_not]; exact hC
  exact ⟨key A C hA hC ⟨p, hp, p1, p2⟩ ⟨w, hw, w1, w2⟩,
    key A (fun e => ¬ C e) hA nC ⟨q, hq, q1, q2⟩ ⟨r, hr, r1, fun k => k r2⟩,
    key (fun e => ¬ A e) C nA hC ⟨r, hr, r1, r2⟩ ⟨q, hq, fun k => k q1, q2⟩,
    key (fun e => ¬ A e) (fun e => ¬ C e) nA nC ⟨w, hw, w1, w2⟩ ⟨p, hp, fun k => k p1, fun k => k p2⟩⟩
