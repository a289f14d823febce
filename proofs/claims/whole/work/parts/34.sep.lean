/-! PURE PART VIII: a piece that comes apart at two points -/
/-- the slots T come apart at u, v -/
def Spl (T : Nat → Prop) (U V : Nat → Nat) (u v : Nat) : Prop := ∃ Q : Nat → Prop, (∃ s t, T s ∧ T t ∧ Q s ∧ Q t ∧ s ≠ t) ∧ (∃ s t, T s ∧ T t ∧ ¬ Q s ∧ ¬ Q t ∧ s ≠ t) ∧ ∀ s t x, T s → T t → Q s → ¬ Q t → (x = U s ∨ x = V s) → (x = U t ∨ x = V t) → x = u ∨ x = v
theorem Spl_not {T : Nat → Prop} {U V : Nat → Nat} {u v : Nat} {Q : Nat → Prop} (c : ∀ s t x, T s → T t → Q s → ¬ Q t → (x = U s ∨ x = V s) → (x = U t ∨ x = V t) → x = u ∨ x = v) : ∀ s t x, T s → T t → ¬ Q s → ¬ ¬ Q t → (x = U s ∨ x = V s) → (x = U t ∨ x = V t) → x = u ∨ x = v := fun s t x hs ht qs qt a b => c t s x ht hs (Classical.not_not.mp qt) qs b a
theorem Spl_symm {T : Nat → Prop} {U V : Nat → Nat} {u v : Nat} (h : Spl T U V u v) : Spl T U V v u := by
  obtain ⟨Q, a, b, c⟩ := h
  exact ⟨Q, a, b, fun s t x hs ht qs qt p q => (c s t x hs ht qs qt p q).symm⟩
theorem Spl_congr {T T' : Nat → Prop} {U V U' V' : Nat → Nat} {u v : Nat} (h : Spl T U V u v) (hT : ∀ s, T s ↔ T' s) (hU : ∀ s, T s → U s = U' s) (hV : ∀ s, T s → V s = V' s) : Spl T' U' V' u v := by
  obtain ⟨Q, ⟨s, t, a, b, k⟩, ⟨s', t', a', b', k'⟩, c⟩ := h
  refine ⟨Q, ⟨s, t, (hT s).mp a, (hT t).mp b, k⟩, ⟨s', t', (hT s').mp a', (hT t').mp b', k'⟩, fun s t x hs ht qs qt p q => c s t x ((hT s).mpr hs) ((hT t).mpr ht) qs qt ?_ ?_⟩
  · rw [hU s ((hT s).mpr hs), hV s ((hT s).mpr hs)]; exact p
  · rw [hU t ((hT t).mpr ht), hV t ((hT t).mpr ht)]; exact q
section
variable {T : Nat → Prop} {U V : Nat → Nat} {near twice : Nat → Int64} {present x r : Int64} {u v : Nat}
theorem part_sep (L : Lk T U V near twice present) (e40 : ∀ s, T s → U s < 40 ∧ V s < 40) (two : ∀ s y, T s → (y = U s ∨ y = V s) → ∃ t, T t ∧ t ≠ s ∧ (y = U t ∨ y = V t)) (hu : u < 40) (hx : ∀ p, bt x p ↔ bt present p ∧ p ≠ u ∧ p ≠ v)
    (c1 : ∀ p, bt r p → bt x p) (c2 : ∀ p, bt x p → (∀ q, q < p → ¬ bt x q) → bt r p) (c3 : ∀ p q, bt r p → bt (near p) q → bt x q → bt r q)
    (ho : ∃ p, bt x p) (hz : bt (twice u) v ∨ r ≠ x) :
    (∃ s t, T s ∧ T t ∧ (bt r (U s) ∨ bt r (V s)) ∧ (bt r (U t) ∨ bt r (V t)) ∧ s ≠ t) ∧ (∃ s t, T s ∧ T t ∧ ¬ (bt r (U s) ∨ bt r (V s)) ∧ ¬ (bt r (U t) ∨ bt r (V t)) ∧ s ≠ t) ∧ ∀ s t y, T s → T t → (bt r (U s) ∨ bt r (V s)) → ¬ (bt r (U t) ∨ bt r (V t)) → (y = U s ∨ y = V s) → (y = U t ∨ y = V t) → y = u ∨ y = v := by
  obtain ⟨l1, l2, l3⟩ := L
  have tc : ∀ s y, (y = U s ∨ y = V s) → bt r y → (bt r (U s) ∨ bt r (V s)) := fun s y k z => by
    rcases k with rfl | rfl
    · exact Or.inl z
    · exact Or.inr z
  -- a slot with an end in r has its other end there or in u, v
  have cl : ∀ s y, T s → (bt r (U s) ∨ bt r (V s)) → (y = U s ∨ y = V s) → bt x y → bt r y := fun s y hs q k z => by
    obtain ⟨hU, hV⟩ := e40 s hs
    rcases q with q | q <;> rcases k with rfl | rfl
    · exact q
    · exact c3 _ _ q ((l2 _ _ hU).mpr ⟨s, hs, Or.inl ⟨rfl, rfl⟩⟩) z
    · exact c3 _ _ q ((l2 _ _ hV).mpr ⟨s, hs, Or.inr ⟨rfl, rfl⟩⟩) z
    · exact q
  refine ⟨?_, ?_, ?_⟩
  · obtain ⟨p0, h0⟩ := ho
    obtain ⟨p, -, hp, lp⟩ := least_of (P := bt x) h0
    obtain ⟨s, hs, ks⟩ := (l1 p).mp ((hx p).mp hp).1
    obtain ⟨t, ht, ts, kt⟩ := two s p hs ks
    exact ⟨s, t, hs, ht, tc s p ks (c2 p hp lp), tc t p kt (c2 p hp lp), fun k => ts k.symm⟩
  · rcases hz with hz | hz
    · obtain ⟨s, t, hs, ht, st, k, k'⟩ := (l3 u v hu).mp hz
      refine ⟨s, t, hs, ht, ?_, ?_, st⟩
      · rintro (z | z) <;> have := (hx _).mp (c1 _ z) <;> omega
      · rintro (z | z) <;> have := (hx _).mp (c1 _ z) <;> omega
    · have : ∃ p, bt x p ∧ ¬ bt r p := Classical.byContradiction fun k => hz (bt_ext fun p => ⟨c1 p, fun a => Classical.byContradiction fun b => k ⟨p, a, b⟩⟩)
      obtain ⟨p, hp, np⟩ := this
      obtain ⟨s, hs, ks⟩ := (l1 p).mp ((hx p).mp hp).1
      obtain ⟨t, ht, ts, kt⟩ := two s p hs ks
      exact ⟨s, t, hs, ht, fun q => np (cl s p hs q ks hp), fun q => np (cl t p ht q kt hp), fun k => ts k.symm⟩
  · intro s t y hs ht qs qt ks kt
    refine Classical.byContradiction fun k => qt (tc t y kt (cl s y hs qs ks ((hx y).mpr ⟨(l1 y).mpr ⟨s, hs, ks⟩, fun z => k (Or.inl z), fun z => k (Or.inr z)⟩)))
theorem sep_part (L : Lk T U V near twice present) (e40 : ∀ s, T s → U s < 40 ∧ V s < 40 ∧ U s ≠ V s) (hu : u < 40) (hx : ∀ p, bt x p ↔ bt present p ∧ p ≠ u ∧ p ≠ v)
    (c4 : ∀ Y : Nat → Prop, (∀ p, bt x p → (∀ q, q < p → ¬ bt x q) → Y p) → (∀ p q, Y p → bt x p → bt (near p) q → bt x q → Y q) → ∀ p, bt r p → Y p)
    (ho : ∃ p, bt x p) (hs : Spl T U V u v) : bt (twice u) v ∨ r ≠ x := by
  refine Classical.byContradiction fun no => ?_
  have nt : ¬ bt (twice u) v := fun k => no (Or.inl k)
  have rx : r = x := Classical.byContradiction fun k => no (Or.inr k)
  subst rx
  obtain ⟨l1, l2, l3⟩ := L
  obtain ⟨p0, h0⟩ := ho
  obtain ⟨p, -, hp, lp⟩ := least_of (P := bt r) h0
  obtain ⟨s0, hs0, k0⟩ := (l1 p).mp ((hx p).mp hp).1
  have main : ∀ Q : Nat → Prop, Q s0 → (∃ s t, T s ∧ T t ∧ ¬ Q s ∧ ¬ Q t ∧ s ≠ t) → (∀ s t x, T s → T t → Q s → ¬ Q t → (x = U s ∨ x = V s) → (x = U t ∨ x = V t) → x = u ∨ x = v) → False := by
    intro Q q0 ⟨s, t, hs, ht, ns, ntt, st⟩ com
    have out : ∀ y, bt r y → ¬ (y = u ∨ y = v) := fun y k z => by have := (hx y).mp k; omega
    have all : ∀ y, bt r y → ∀ t, T t → (y = U t ∨ y = V t) → Q t := by
      refine c4 (fun y => ∀ t, T t → (y = U t ∨ y = V t) → Q t) (fun y hy ly t ht kt => ?_) (fun y z hy ry ny rz t ht kt => ?_)
      · have : y = p := by
          have : ¬ y < p := fun k => lp y k hy
          have : ¬ p < y := fun k => ly p k hp
          omega
        subst this
        exact Classical.byContradiction fun k => out y hy (com s0 t y hs0 ht q0 k k0 kt)
      · have y40 : y < 40 := by
          obtain ⟨s, hs, k⟩ := (l1 y).mp ((hx y).mp ry).1
          have := e40 s hs
          omega
        obtain ⟨s, hs, ks⟩ := (l2 y z y40).mp ny
        have qs : Q s := hy s hs (by omega)
        exact Classical.byContradiction fun k => out z rz (com s t z hs ht qs k (by omega) kt)
    have ends : ∀ s, T s → ¬ Q s → (u = U s ∧ v = V s) ∨ (u = V s ∧ v = U s) := fun s hs ns => by
      have a : U s = u ∨ U s = v := Classical.byContradiction fun k => ns (all (U s) ((hx _).mpr ⟨(l1 _).mpr ⟨s, hs, Or.inl rfl⟩, by omega, by omega⟩) s hs (Or.inl rfl))
      have b : V s = u ∨ V s = v := Classical.byContradiction fun k => ns (all (V s) ((hx _).mpr ⟨(l1 _).mpr ⟨s, hs, Or.inr rfl⟩, by omega, by omega⟩) s hs (Or.inr rfl))
      have := (e40 s hs).2.2
      omega
    exact nt ((l3 u v hu).mpr ⟨s, t, hs, ht, st, ends s hs ns, ends t ht ntt⟩)
  obtain ⟨Q, ⟨a, b, ha, hb, qa, qb, ab⟩, i2, com⟩ := hs
  by_cases q0 : Q s0
  · exact main Q q0 i2 com
  · exact main (fun s => ¬ Q s) q0 ⟨a, b, ha, hb, fun k => k qa, fun k => k qb, ab⟩ (Spl_not com)
theorem oth_bits (L : Lk T U V near twice present) (e40 : ∀ s, T s → U s < 40 ∧ V s < 40 ∧ U s ≠ V s) {r1 r2 : Int64} (h1 : ∀ q, bt r1 q ↔ q = u) (h2 : ∀ q, bt r2 q ↔ q = v) : ∀ p, bt ((present &&& (r1 ^^^ (-1))) &&& (r2 ^^^ (-1))) p ↔ bt present p ∧ p ≠ u ∧ p ≠ v := fun p => by
  rw [bt_and, bt_and]
  constructor
  · rintro ⟨⟨a, b⟩, c⟩
    exact ⟨a, fun k => (bt_not _ (bt_lt a)).mp b ((h1 p).mpr k), fun k => (bt_not _ (bt_lt a)).mp c ((h2 p).mpr k)⟩
  · rintro ⟨a, b, c⟩
    exact ⟨⟨a, (bt_not _ (bt_lt a)).mpr (fun k => b ((h1 p).mp k))⟩, (bt_not _ (bt_lt a)).mpr (fun k => c ((h2 p).mp k))⟩
theorem present40 (L : Lk T U V near twice present) (e40 : ∀ s, T s → U s < 40 ∧ V s < 40 ∧ U s ≠ V s) {p : Nat} (h : bt present p) : p < 40 := by
  obtain ⟨s, hs, k⟩ := (L.1 p).mp h
  have := e40 s hs
  omega
/-- the class's question, whether two points of a piece part it -/
theorem sp_comeApartAt {post : Int32 → Prop} (L : Lk T U V near twice present) (e40 : ∀ s, T s → U s < 40 ∧ V s < 40 ∧ U s ≠ V s) (two : ∀ s y, T s → (y = U s ∨ y = V s) → ∃ t, T t ∧ t ≠ s ∧ (y = U t ∨ y = V t)) (hu : u < 40) (hv : v < 40)
    (h1 : (∃ s y, T s ∧ (y = U s ∨ y = V s) ∧ y ≠ u ∧ y ≠ v) → Spl T U V u v → post 1) (h0 : ((∃ s y, T s ∧ (y = U s ∨ y = V s) ∧ y ≠ u ∧ y ≠ v) → ¬ Spl T U V u v) → post 0) : wp_Links_comeApartAt near twice present (nI u) (nI v) post := by
  unfold wp_Links_comeApartAt
  refine sp_only hu fun r1 e1 => sp_only hv fun r2 e2 x ex => ?_
  have hx := oth_bits L e40 e1 e2
  rw [← ex] at hx
  have x40 : ∀ p, bt x p → p < 40 := fun p hp => present40 L e40 ((hx p).mp hp).1
  have oth : (∃ p, bt x p) ↔ ∃ s y, T s ∧ (y = U s ∨ y = V s) ∧ y ≠ u ∧ y ≠ v := by
    constructor
    · rintro ⟨p, hp⟩
      obtain ⟨a, b⟩ := (hx p).mp hp
      obtain ⟨s, hs, k⟩ := (L.1 p).mp a
      exact ⟨s, p, hs, k, b⟩
    · rintro ⟨s, y, hs, k, b⟩
      exact ⟨y, (hx y).mpr ⟨(L.1 y).mpr ⟨s, hs, k⟩, b⟩⟩
  rw [cmp0]
  refine ⟨fun z => h0 fun k => ?_, fun z => ⟨(in_nI (by omega)).mpr hu, ?_⟩⟩
  · obtain ⟨p, hp⟩ := oth.mpr k
    rw [z] at hp; exact absurd hp (bt_zero p)
  have ne := bt_ne z
  rw [ix_nI (by omega)]
  have sep : ∀ r, (∀ p, bt r p → bt x p) → (∀ p, bt x p → (∀ q, q < p → ¬ bt x q) → bt r p) → (∀ p q, bt r p → bt (near p) q → bt x q → bt r q) → (bt (twice u) v ∨ r ≠ x) → Spl T U V u v := fun r a b c d => ⟨_, part_sep L (fun s hs => ⟨(e40 s hs).1, (e40 s hs).2.1⟩) two hu hx a b c ne d⟩
  refine sp_holds hv (fun w => ⟨fun _ => ?_, fun k => absurd k (by decide)⟩) (fun w => ⟨fun k => absurd rfl k, fun _ => ?_⟩)
  · -- twice: the slots with another point, and the rest
    refine h1 (oth.mp ne) ?_
    obtain ⟨s, y, hs, ks, yu, yv⟩ := oth.mp ne
    obtain ⟨t, ht, ts, kt⟩ := two s y hs ks
    obtain ⟨a, b, ha, hb, ab, ka, kb⟩ := (L.2.2 u v hu).mp w
    refine ⟨fun s => ¬ ((u = U s ∧ v = V s) ∨ (u = V s ∧ v = U s)), ⟨s, t, hs, ht, by omega, by omega, fun k => ts k.symm⟩, ⟨a, b, ha, hb, fun k => k ka, fun k => k kb, ab⟩, fun s t y hs ht qs qt ks kt => ?_⟩
    have := Classical.not_not.mp qt
    omega
  · refine sp_reach x40 fun r a b c d => ?_
    rw [cmp0]
    refine ⟨fun k => h0 fun _ hs => ?_, fun k => h1 (oth.mp ne) (sep r a b c (Or.inr k))⟩
    exact (sep_part L e40 hu hx d ne hs).elim w (fun z => z k)
end
