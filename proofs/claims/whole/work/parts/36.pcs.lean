/-! PURE PART X: the arrays of pieces that both programs keep: slot s lies in piece ho s, or in none (-1) -/
theorem sumN_swap {f : Nat → Nat → Nat} (m : Nat) : ∀ n : Nat, sumN n (fun x => sumN m (fun y => f x y)) = sumN m (fun y => sumN n (fun x => f x y))
  | 0 => (sumN_zero m (fun _ _ => rfl)).symm
  | n + 1 => by
    show sumN n _ + sumN m _ = sumN m (fun y => sumN n (fun x => f x y) + f n y)
    rw [sumN_swap m n, sumN_add]
theorem sumN_const (c : Nat) : ∀ n : Nat, sumN n (fun _ => c) = c * n
  | 0 => rfl
  | n + 1 => by show sumN n _ + c = c * (n + 1); rw [sumN_const c n, Nat.mul_succ]
theorem cnt_below {n m : Nat} {P : Nat → Prop} (h : ∀ x, x < n → P x → x < m) : cnt n P ≤ m := by
  induction n generalizing m with
  | zero => exact Nat.zero_le _
  | succ n ih =>
    show cnt n P + pr (P n) ≤ m
    by_cases z : P n
    · have := h n (by omega) z
      have a := cnt_le n P
      rw [pr_t z]; omega
    · rw [pr_f z]
      exact ih (fun x hx k => h x (by omega) k)
theorem cnt_ge4 {n : Nat} {P : Nat → Prop} {a b c d : Nat} (ha : a < n) (hb : b < n) (hc : c < n) (hd : d < n) (ab : a ≠ b) (ac : a ≠ c) (ad : a ≠ d) (bc : b ≠ c) (bd : b ≠ d) (cd : c ≠ d) (pa : P a) (pb : P b) (pc : P c) (pd : P d) : 4 ≤ cnt n P := by
  rw [cnt_rem ha pa]
  have := cnt_ge3 (P := fun x => P x ∧ x ≠ a) hb hc hd bc bd cd ⟨pb, fun k => ab k.symm⟩ ⟨pc, fun k => ac k.symm⟩ ⟨pd, fun k => ad k.symm⟩
  omega
section
variable {E : Nat → Prop} {I : Nat → Nat → Prop} {S S' : Nat → Prop} {h h' : Nat → Int} {U V U' V' : Nat → Nat} {M : Nat → Nat → Prop} {pt : Nat → Nat} {b : Nat} {w : Nat → Nat} {kd : Int → Int}
/-- a piece of four slots and more: then there are few pieces -/
theorem bas_count (B : Bas E I S h U V M pt b w) {ct m p0 : Nat} (hp : ∀ s, S s → ∃ p, p < ct ∧ h s = (p : Int)) (all : ∀ p : Nat, p < ct → ∃ s, S s ∧ h s = (p : Int)) (lt : ∀ s, S s → s < m) (h0 : p0 < ct)
    {x y z t : Nat} (sx : S x) (sy : S y) (sz : S z) (st : S t) (hx : h x = (p0 : Int)) (hy : h y = (p0 : Int)) (hz : h z = (p0 : Int)) (ht : h t = (p0 : Int)) (xy : x ≠ y) (xz : x ≠ z) (xt : x ≠ t) (yz : y ≠ z) (yt : y ≠ t) (zt : z ≠ t) : 3 * ct + 1 ≤ m := by
  obtain ⟨b0, b1, b2, b3, b4, b5, -⟩ := id B
  have a1 : cnt 400 S ≤ m := cnt_below fun s _ k => lt s k
  have a2 : cnt 400 S = sumN ct (fun p => cnt 400 (fun s => S s ∧ h s = (p : Int))) := by
    unfold cnt
    rw [sumN_swap]
    refine sumN_congr 400 fun s _ => ?_
    by_cases k : S s
    · obtain ⟨p, hp, e⟩ := hp s k
      rw [pr_t k, sumN_one (u := p) ct hp (fun q _ n => pr_f (fun z => n (by have := z.2.symm.trans e; omega)))]
      exact (pr_t ⟨k, e⟩).symm
    · rw [pr_f k]
      exact (sumN_zero ct fun q _ => pr_f fun z => k z.1).symm
  have a3 : sumN ct (fun p => 3 + pr (p = p0)) ≤ sumN ct (fun p => cnt 400 (fun s => S s ∧ h s = (p : Int))) := by
    refine sumN_le ct fun p hp => ?_
    by_cases e : p = p0
    · subst e
      rw [pr_t rfl]
      exact cnt_ge4 (b0 x sx) (b0 y sy) (b0 z sz) (b0 t st) xy xz xt yz yt zt ⟨sx, hx⟩ ⟨sy, hy⟩ ⟨sz, hz⟩ ⟨st, ht⟩
    · rw [pr_f e]
      obtain ⟨s, hs, es⟩ := all p hp
      obtain ⟨t, r, ht, hr, et, er, ts, rs, tr⟩ := b5 s hs
      exact cnt_ge3 (b0 s hs) (b0 t ht) (b0 r hr) (fun k => ts k.symm) (fun k => rs k.symm) tr ⟨hs, es⟩ ⟨ht, et.trans es⟩ ⟨hr, er.trans es⟩
  rw [sumN_add, sumN_const, sumN_one (u := p0) ct h0 (fun q _ n => pr_f n), pr_t rfl] at a3
  omega
/-- a split's two points are points of the piece, on both sides -/
theorem spl_pts (g : Gr E I) (h2 : Two E I) (B : Bas E I S h U V M pt b w) {p : Int} {u v : Nat} {Q : Nat → Prop} (q2 : ∃ s, S s ∧ h s = p ∧ Q s) (r2 : ∃ s, S s ∧ h s = p ∧ ¬ Q s)
    (com : ∀ s t x, S s → S t → h s = p → h t = p → Q s → ¬ Q t → (x = U s ∨ x = V s) → (x = U t ∨ x = V t) → x = u ∨ x = v) {y : Nat} (hy : y = u ∨ y = v) : ∃ s, S s ∧ h s = p ∧ Q s ∧ (y = U s ∨ y = V s) := by
  obtain ⟨b0, b1, b2, b3, b4, b5, -⟩ := id B
  obtain ⟨a, sa, ea, qa⟩ := q2
  obtain ⟨c, sc, ec, nc⟩ := r2
  have bd : ∀ x, bdy E I (fun e => ∃ s, S s ∧ h s = p ∧ Q s ∧ M s e) x → ∃ s t, S s ∧ S t ∧ h s = p ∧ h t = p ∧ Q s ∧ ¬ Q t ∧ (x = U s ∨ x = V s) ∧ (x = U t ∨ x = V t) := fun x ⟨⟨e, he, ⟨s, hs, es, qs, ms⟩, hi⟩, ⟨e', he', ne', hi'⟩⟩ => by
    obtain ⟨t, ht, et, mt⟩ := b2 a sa e' he'
    have et' := et.trans ea
    have nt : ¬ Q t := fun k => ne' ⟨t, ht, et', k, mt⟩
    have st : s ≠ t := fun k => nt (k ▸ qs)
    exact ⟨s, t, hs, ht, es, et', qs, nt, (bas_end B hs).mp ⟨⟨e, he, ms, hi⟩, ⟨e', he', b1 t s ht hs (et'.trans es.symm) (fun k => st k.symm) e' he' mt, hi'⟩⟩, (bas_end B ht).mp ⟨⟨e', he', mt, hi'⟩, ⟨e, he, b1 s t hs ht (es.trans et'.symm) st e he ms, hi⟩⟩⟩
  obtain ⟨e1, he1, m1⟩ := b3 a sa
  obtain ⟨e2, he2, m2⟩ := b3 c sc
  have := (bdy_both g h2 (X := fun e => ∃ s, S s ∧ h s = p ∧ Q s ∧ M s e) (u := u) (v := v) ⟨e1, he1, a, sa, ea, qa, m1⟩ ⟨e2, he2, fun ⟨s, hs, es, qs, ms⟩ => b1 c s sc hs (ec.trans es.symm) (fun k => nc (k ▸ qs)) e2 he2 m2 ms⟩ (fun x k => by
    obtain ⟨s, t, hs, ht, es, et, qs, nt, k1, k2⟩ := bd x k
    exact com s t x hs ht es et qs nt k1 k2) y).mpr hy
  obtain ⟨s, t, hs, ht, es, et, qs, nt, k1, k2⟩ := bd y this
  exact ⟨s, hs, es, qs, k1⟩
end
def Tp (ho : Nat → Int32) (sl p s : Nat) : Prop := s < sl ∧ ho s = nI p
def en (a : Nat → Int32) (s : Nat) : Nat := ix (a s)
def livS (ho : Nat → Int32) (sl s : Nat) : Prop := s < sl ∧ ho s ≠ -1
def hm (ho : Nat → Int32) (s : Nat) : Int := (ho s).toInt
def ptb (b s : Nat) : Nat := if (s - b) % 2 = 0 then s + 1 else s - 1
def Pts (T : Nat → Prop) (U V : Nat → Nat) (x : Nat) : Prop := ∃ s, T s ∧ (x = U s ∨ x = V s)
def CSpl (T : Nat → Prop) (U V : Nat → Nat) (u v : Nat) : Prop := (∃ x, Pts T U V x ∧ x ≠ u ∧ x ≠ v) ∧ Spl T U V u v
/-- the pieces in the arrays: b edges' slots, then the joints' sides -/
def CP (E : Nat → Prop) (I : Nat → Nat → Prop) (b : Nat) (w : Nat → Nat) (fe se ho : Nat → Int32) (sl ct : Nat) : Prop :=
  (∃ M, Bas E I (livS ho sl) (hm ho) (en fe) (en se) M (ptb b) b w) ∧ (∀ s, livS ho sl s → fe s = nI (en fe s) ∧ se s = nI (en se s)) ∧
  (∀ s, livS ho sl s → ∃ p, p < ct ∧ ho s = nI p) ∧ (∀ p, p < ct → ∃ s, Tp ho sl p s) ∧ sl + 2 = b + 2 * ct ∧ 1 ≤ ct ∧ b ≤ 100 ∧ ct ≤ 98 ∧ (∀ s, b ≤ s → s < sl → livS ho sl s)
theorem hm_nI {ho : Nat → Int32} {s p : Nat} (hp : p < 2147483648) : hm ho s = (p : Int) ↔ ho s = nI p := by
  unfold hm
  rw [← zI_toInt hp, Int32.toInt_inj]
theorem Tp_iff {ho : Nat → Int32} {sl p s : Nat} (hp : p < 2147483648) : Tp ho sl p s ↔ livS ho sl s ∧ hm ho s = (p : Int) := by
  rw [hm_nI hp]
  exact ⟨fun k => ⟨⟨k.1, fun z => zI_ne hp (k.2.symm.trans z)⟩, k.2⟩, fun k => ⟨k.1.1, k.2⟩⟩
section
variable {E : Nat → Prop} {I : Nat → Nat → Prop} {b : Nat} {w : Nat → Nat} {fe se ho fe' se' ho' : Nat → Int32} {sl ct p : Nat}
theorem CP.e40 (C : CP E I b w fe se ho sl ct) {s : Nat} (hs : livS ho sl s) : en fe s < 40 ∧ en se s < 40 ∧ en fe s ≠ en se s := by
  obtain ⟨⟨M, B⟩, -⟩ := C
  exact ⟨(B.2.2.2.2.1 s hs).1, (B.2.2.2.2.1 s hs).2.1, (B.2.2.2.2.1 s hs).2.2.1⟩
theorem CP.ct98 (C : CP E I b w fe se ho sl ct) : ct ≤ 98 := C.2.2.2.2.2.2.2.1
theorem CP.ct1 (C : CP E I b w fe se ho sl ct) : 1 ≤ ct := C.2.2.2.2.2.1
theorem CP.b100 (C : CP E I b w fe se ho sl ct) : b ≤ 100 := C.2.2.2.2.2.2.1
theorem CP.len (C : CP E I b w fe se ho sl ct) : sl + 2 = b + 2 * ct := C.2.2.2.2.1
theorem CP.Tlv (C : CP E I b w fe se ho sl ct) {s : Nat} (hp : p < 2147483648) (h : Tp ho sl p s) : livS ho sl s := ((Tp_iff hp).mp h).1
theorem CP.two (C : CP E I b w fe se ho sl ct) {s y : Nat} (hp : p < 2147483648) (h : Tp ho sl p s) (hy : y = en fe s ∨ y = en se s) : ∃ t, Tp ho sl p t ∧ t ≠ s ∧ (y = en fe t ∨ y = en se t) := by
  obtain ⟨⟨M, B⟩, -⟩ := id C
  obtain ⟨hs, es⟩ := (Tp_iff hp).mp h
  obtain ⟨t, ht, et, ts, k⟩ := bas_two B hs hy
  exact ⟨t, (Tp_iff hp).mpr ⟨ht, et.trans es⟩, ts, k⟩
theorem CP.three (C : CP E I b w fe se ho sl ct) {s : Nat} (hp : p < 2147483648) (h : Tp ho sl p s) : ∃ t r, Tp ho sl p t ∧ Tp ho sl p r ∧ t ≠ s ∧ r ≠ s ∧ t ≠ r := by
  obtain ⟨⟨M, B⟩, -⟩ := id C
  obtain ⟨hs, es⟩ := (Tp_iff hp).mp h
  obtain ⟨t, r, ht, hr, et, er, k⟩ := B.2.2.2.2.2.1 s hs
  exact ⟨t, r, (Tp_iff hp).mpr ⟨ht, et.trans es⟩, (Tp_iff hp).mpr ⟨hr, er.trans es⟩, k⟩
theorem CP.pts (C : CP E I b w fe se ho sl ct) (g : Gr E I) (h2 : Two E I) {u v y : Nat} (hp : p < 2147483648) (h : Spl (Tp ho sl p) (en fe) (en se) u v) (hy : y = u ∨ y = v) : Pts (Tp ho sl p) (en fe) (en se) y := by
  obtain ⟨⟨M, B⟩, -⟩ := id C
  obtain ⟨Q, ⟨s, t, hs, ht, qs, qt, st⟩, ⟨s', t', hs', ht', qs', qt', st'⟩, com⟩ := h
  obtain ⟨a, ha, ea, qa, k⟩ := spl_pts g h2 B (p := (p : Int)) (Q := Q) ⟨s, ((Tp_iff hp).mp hs).1, ((Tp_iff hp).mp hs).2, qs⟩ ⟨s', ((Tp_iff hp).mp hs').1, ((Tp_iff hp).mp hs').2, qs'⟩ (fun s t x hs ht es et => com s t x ((Tp_iff hp).mpr ⟨hs, es⟩) ((Tp_iff hp).mpr ⟨ht, et⟩)) hy
  exact ⟨a, (Tp_iff hp).mpr ⟨ha, ea⟩, k⟩
/-- splitting off the slots Q of the piece p at u, v -/
theorem CP.split (C : CP E I b w fe se ho sl ct) (g : Gr E I) (h2 : Two E I) {u v : Nat} {Q : Nat → Prop} (hp : p < ct) (hu : u < 40) (hv : v < 40) (huv : u ≠ v) (q2 : ∃ s t, Tp ho sl p s ∧ Tp ho sl p t ∧ Q s ∧ Q t ∧ s ≠ t) (r2 : ∃ s t, Tp ho sl p s ∧ Tp ho sl p t ∧ ¬ Q s ∧ ¬ Q t ∧ s ≠ t)
    (com : ∀ s t x, Tp ho sl p s → Tp ho sl p t → Q s → ¬ Q t → (x = en fe s ∨ x = en se s) → (x = en fe t ∨ x = en se t) → x = u ∨ x = v) :
    ct ≤ 97 ∧ ∀ fe' se' ho' : Nat → Int32, (∀ s, s < sl → ho s = nI p → Q s → ho' s = nI ct) → (∀ s, s < sl → ¬ (ho s = nI p ∧ Q s) → ho' s = ho s) → ho' sl = nI p → ho' (sl + 1) = nI ct → (∀ s, s < sl → fe' s = fe s) → (∀ s, s < sl → se' s = se s) → fe' sl = nI u → fe' (sl + 1) = nI u → se' sl = nI v → se' (sl + 1) = nI v →
      CP E I b w fe' se' ho' (sl + 2) (ct + 1) ∧ (∀ s, Tp ho' (sl + 2) p s ↔ (Tp ho sl p s ∧ ¬ Q s) ∨ s = sl) ∧ (∀ s, Tp ho' (sl + 2) ct s ↔ (Tp ho sl p s ∧ Q s) ∨ s = sl + 1) ∧ (∀ q, q < ct → q ≠ p → ∀ s, Tp ho' (sl + 2) q s ↔ Tp ho sl q s) := by
  obtain ⟨⟨M, B⟩, c1, c2, c3, c4, c5, c6, c7, c8⟩ := id C
  have pI : p < 2147483648 := by omega
  have cI : ct < 2147483648 := by omega
  have b0 := B.1
  obtain ⟨qa, qb, hqa, hqb, qqa, qqb, qab⟩ := id q2
  obtain ⟨ra, rb, hra, hrb, nra, nrb, rab⟩ := id r2
  have lt97 : ct ≤ 97 := by
    have := bas_count B (ct := ct) (m := sl) (p0 := p) (fun s hs => by
      obtain ⟨q, hq, e⟩ := c2 s hs
      exact ⟨q, hq, (hm_nI (by omega)).mpr e⟩) (fun q hq => by
      obtain ⟨s, hs⟩ := c3 q hq
      exact ⟨s, (Tp_iff (by omega)).mp hs⟩) (fun s hs => hs.1) hp ((Tp_iff pI).mp hqa).1 ((Tp_iff pI).mp hqb).1 ((Tp_iff pI).mp hra).1 ((Tp_iff pI).mp hrb).1 ((Tp_iff pI).mp hqa).2 ((Tp_iff pI).mp hqb).2 ((Tp_iff pI).mp hra).2 ((Tp_iff pI).mp hrb).2 qab (fun k => nra (k ▸ qqa)) (fun k => nrb (k ▸ qqa)) (fun k => nra (k ▸ qqb)) (fun k => nrb (k ▸ qqb)) rab
    omega
  refine ⟨lt97, fun fe' se' ho' k1 k0 j0 j1 f0 s0 fj fj' sj sj' => ?_⟩
  have nl : ¬ livS ho sl sl := fun k => absurd k.1 (by omega)
  have nl' : ¬ livS ho sl (sl + 1) := fun k => absurd k.1 (by omega)
  have eS : ∀ s, livS ho' (sl + 2) s ↔ livS ho sl s ∨ s = sl ∨ s = sl + 1 := fun s => by
    constructor
    · rintro ⟨a, c⟩
      by_cases z : s < sl
      · refine Or.inl ⟨z, fun k => ?_⟩
        by_cases y : ho s = nI p ∧ Q s
        · exact zI_ne pI (y.1.symm.trans k)
        · rw [k0 s z y] at c; exact c k
      · omega
    · rintro (⟨a, c⟩ | rfl | rfl)
      · refine ⟨by omega, fun k => ?_⟩
        by_cases y : ho s = nI p ∧ Q s
        · rw [k1 s a y.1 y.2] at k; exact zI_ne cI k
        · rw [k0 s a y] at k; exact c k
      · exact ⟨by omega, by rw [j0]; exact zI_ne pI⟩
      · exact ⟨by omega, by rw [j1]; exact zI_ne cI⟩
  have tp : ∀ s, Tp ho' (sl + 2) p s ↔ (Tp ho sl p s ∧ ¬ Q s) ∨ s = sl := fun s => by
    constructor
    · rintro ⟨a, c⟩
      by_cases z : s < sl
      · by_cases y : ho s = nI p ∧ Q s
        · rw [k1 s z y.1 y.2, zI_eq cI pI] at c; omega
        · rw [k0 s z y] at c; exact Or.inl ⟨⟨z, c⟩, fun q => y ⟨c, q⟩⟩
      · by_cases y : s = sl
        · exact Or.inr y
        · have : s = sl + 1 := by omega
          rw [this, j1, zI_eq cI pI] at c; omega
    · rintro (⟨⟨a, c⟩, q⟩ | rfl)
      · exact ⟨by omega, by rw [k0 s a (fun y => q y.2)]; exact c⟩
      · exact ⟨by omega, j0⟩
  have tc : ∀ s, Tp ho' (sl + 2) ct s ↔ (Tp ho sl p s ∧ Q s) ∨ s = sl + 1 := fun s => by
    constructor
    · rintro ⟨a, c⟩
      by_cases z : s < sl
      · by_cases y : ho s = nI p ∧ Q s
        · exact Or.inl ⟨⟨z, y.1⟩, y.2⟩
        · rw [k0 s z y] at c
          obtain ⟨q, hq, e⟩ := c2 s ⟨z, by rw [c]; exact zI_ne cI⟩
          rw [c, zI_eq cI (by omega)] at e; omega
      · by_cases y : s = sl + 1
        · exact Or.inr y
        · have : s = sl := by omega
          rw [this, j0, zI_eq pI cI] at c; omega
    · rintro (⟨⟨a, c⟩, q⟩ | rfl)
      · exact ⟨by omega, k1 s a c q⟩
      · exact ⟨by omega, j1⟩
  have tq : ∀ q, q < ct → q ≠ p → ∀ s, Tp ho' (sl + 2) q s ↔ Tp ho sl q s := fun q hq qp s => by
    constructor
    · rintro ⟨a, c⟩
      by_cases z : s < sl
      · by_cases y : ho s = nI p ∧ Q s
        · rw [k1 s z y.1 y.2, zI_eq cI (by omega)] at c; omega
        · rw [k0 s z y] at c; exact ⟨z, c⟩
      · by_cases y : s = sl
        · rw [y, j0, zI_eq pI (by omega)] at c; omega
        · have : s = sl + 1 := by omega
          rw [this, j1, zI_eq cI (by omega)] at c; omega
    · rintro ⟨a, c⟩
      refine ⟨by omega, ?_⟩
      rw [k0 s a (fun y => by have := c.symm.trans y.1; rw [zI_eq (by omega) pI] at this; omega)]; exact c
  have pe : (sl - b) % 2 = 0 := by omega
  have pe' : (sl + 1 - b) % 2 ≠ 0 := by omega
  obtain ⟨M', B', -⟩ := bas_split g h2 B (S' := livS ho' (sl + 2)) (h' := hm ho') (U' := en fe') (V' := en se') (p := (p : Int)) (p' := (ct : Int)) (Q := Q) (j := sl) (j' := sl + 1) hu hv huv nl nl' (by omega) (by omega) (by omega) (by omega) (by omega) (by unfold ptb; rw [if_pos pe]) (by unfold ptb; rw [if_neg pe']; omega)
    (fun s hs k => by
      obtain ⟨q, hq, e⟩ := c2 s hs
      rw [hm_nI cI, e, zI_eq (by omega) cI] at k; omega) (by omega)
    ⟨qa, qb, ((Tp_iff pI).mp hqa).1, ((Tp_iff pI).mp hqb).1, ((Tp_iff pI).mp hqa).2, ((Tp_iff pI).mp hqb).2, qqa, qqb, qab⟩
    ⟨ra, rb, ((Tp_iff pI).mp hra).1, ((Tp_iff pI).mp hrb).1, ((Tp_iff pI).mp hra).2, ((Tp_iff pI).mp hrb).2, nra, nrb, rab⟩
    (fun s t x hs ht es et => com s t x ((Tp_iff pI).mpr ⟨hs, es⟩) ((Tp_iff pI).mpr ⟨ht, et⟩)) eS
    ((hm_nI pI).mpr j0) ((hm_nI cI).mpr j1) (fun s hs es q => (hm_nI cI).mpr (k1 s hs.1 ((hm_nI pI).mp es) q)) (fun s hs n => by unfold hm; rw [k0 s hs.1 (fun y => n ⟨(hm_nI pI).mpr y.1, y.2⟩)])
    (fun s hs => by unfold en; rw [f0 s hs.1]) (fun s hs => by unfold en; rw [s0 s hs.1]) (by unfold en; rw [fj, ix_nI (by omega)]) (by unfold en; rw [sj, ix_nI (by omega)]) (by unfold en; rw [fj', ix_nI (by omega)]) (by unfold en; rw [sj', ix_nI (by omega)])
  refine ⟨⟨⟨M', B'⟩, fun s hs => ?_, fun s hs => ?_, fun q hq => ?_, by omega, by omega, c6, by omega, fun s h1 h2 => ?_⟩, tp, tc, tq⟩
  · rcases (eS s).mp hs with k | rfl | rfl
    · unfold en; rw [f0 s k.1, s0 s k.1]; exact c1 s k
    · unfold en; rw [fj, sj, ix_nI (by omega), ix_nI (by omega)]; exact ⟨rfl, rfl⟩
    · unfold en; rw [fj', sj', ix_nI (by omega), ix_nI (by omega)]; exact ⟨rfl, rfl⟩
  · rcases (eS s).mp hs with k | rfl | rfl
    · by_cases y : ho s = nI p ∧ Q s
      · exact ⟨ct, by omega, k1 s k.1 y.1 y.2⟩
      · obtain ⟨q, hq, e⟩ := c2 s k
        exact ⟨q, by omega, (k0 s k.1 y).trans e⟩
    · exact ⟨p, by omega, j0⟩
    · exact ⟨ct, by omega, j1⟩
  · by_cases z : q = ct
    · exact ⟨sl + 1, z ▸ (tc _).mpr (Or.inr rfl)⟩
    by_cases y : q = p
    · exact ⟨sl, y ▸ (tp _).mpr (Or.inr rfl)⟩
    · obtain ⟨s, hs⟩ := c3 q (by omega)
      exact ⟨s, (tq q (by omega) y s).mpr hs⟩
  · rw [eS]
    by_cases z : s < sl
    · exact Or.inl (c8 s h1 z)
    · omega
end
