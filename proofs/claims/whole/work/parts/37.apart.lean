/-! PURE PART XI: the class takes the graph apart -/
noncomputable def kof (T : Nat → Prop) (U V : Nat → Nat) : Int32 := if cnt 40 (Pts T U V) = 2 then 0 else if cnt 40 (Pts T U V) = 3 then 1 else 2
theorem Pts_congr {T T' : Nat → Prop} {U V U' V' : Nat → Nat} (hT : ∀ s, T s ↔ T' s) (hU : ∀ s, T s → U s = U' s) (hV : ∀ s, T s → V s = V' s) (x : Nat) : Pts T U V x ↔ Pts T' U' V' x :=
  ⟨fun ⟨s, hs, k⟩ => ⟨s, (hT s).mp hs, by rw [← hU s hs, ← hV s hs]; exact k⟩, fun ⟨s, hs, k⟩ => ⟨s, (hT s).mpr hs, by rw [hU s ((hT s).mpr hs), hV s ((hT s).mpr hs)]; exact k⟩⟩
theorem CSpl_congr {T T' : Nat → Prop} {U V U' V' : Nat → Nat} {u v : Nat} (h : CSpl T U V u v) (hT : ∀ s, T s ↔ T' s) (hU : ∀ s, T s → U s = U' s) (hV : ∀ s, T s → V s = V' s) : CSpl T' U' V' u v := by
  obtain ⟨⟨x, k, n⟩, c⟩ := h
  exact ⟨⟨x, (Pts_congr hT hU hV x).mp k, n⟩, Spl_congr c hT hU hV⟩
theorem kof_congr {T T' : Nat → Prop} {U V U' V' : Nat → Nat} (hT : ∀ s, T s ↔ T' s) (hU : ∀ s, T s → U s = U' s) (hV : ∀ s, T s → V s = V' s) : kof T U V = kof T' U' V' := by
  unfold kof
  rw [cnt_congr (fun x _ => Pts_congr hT hU hV x)]
section
variable {E : Nat → Prop} {I : Nat → Nat → Prop} {w : Nat → Nat} {fe se ho sa kq : Nat → Int32} {sl ct p : Nat} {near twice : Nat → Int64} {present : Int64}
theorem sp_linkPiece {post : (Nat → Int64) → (Nat → Int64) → Int64 → Prop} (C : CP E I 100 w fe se ho sl ct) (hp : p < 2147483648) (h : ∀ n t r, Lk (Tp ho sl p) (en fe) (en se) n t r → post n t r) : wp_Pieces_linkPiece fe se ho near twice present (nI sl) (nI p) post := by
  have l := C.len
  have c98 := C.ct98
  unfold wp_Pieces_linkPiece wp_Links_clear
  refine sp_fillJ (by omega) fun n1 e1 => sp_fillJ (by omega) fun t1 e2 => ?_
  refine for4 sl (fun k n t r => Lk (fun s => s < k ∧ ho s = nI p) (en fe) (en se) n t r) (by omega) 0 n1 t1 0 (by omega) (Lk_zero e1 e2 (fun s k => absurd k.1 (by omega))) (fun K k n t r hk hJ nx => ⟨fun q => ?_, fun q => ?_⟩)
  · rw [zI_le (by omega) (by omega)] at q
    have : k = sl := by omega
    subst this
    exact h n t r hJ
  · rw [zI_le (by omega) (by omega)] at q
    have ik : vp_in (nI k) 294 := (in_nI (by omega)).mpr (by omega)
    rw [zI_succ, ix_nI (by omega)]
    refine ⟨ik, fun z => nx (by omega) _ _ _ ?_, fun z => ⟨ik, ik, ?_⟩⟩
    · refine Lk_congr hJ (fun s => ⟨fun y => ⟨by omega, y.2⟩, fun y => ⟨?_, y.2⟩⟩) (fun _ _ => rfl) (fun _ _ => rfl)
      have : s ≠ k := fun e => z (e ▸ y.2)
      omega
    · have lk : livS ho sl k := C.Tlv hp ⟨by omega, z⟩
      have e := C.2.1 k lk
      rw [e.1, e.2]
      have d := C.e40 lk
      refine Lk_add hJ (s0 := k) (fun y => absurd y.1 (by omega)) d.1 d.2.1 d.2.2 fun n' t' r' L => nx (by omega) _ _ _ (Lk_congr L (fun s => ⟨fun y => ?_, fun y => ?_⟩) (fun _ _ => rfl) (fun _ _ => rfl))
      · rcases y with y | rfl
        · exact ⟨by omega, y.2⟩
        · exact ⟨by omega, z⟩
      · by_cases e : s = k
        · exact Or.inr e
        · exact Or.inl ⟨by omega, y.2⟩
/-- the arrays after splitting off the slots Q of the piece p at u, v -/
def SpA (fe se ho : Nat → Int32) (sl ct p u v : Nat) (Q : Nat → Prop) (fe' se' ho' : Nat → Int32) : Prop :=
  (∀ s, s < sl → ho s = nI p → Q s → ho' s = nI ct) ∧ (∀ s, s < sl → ¬ (ho s = nI p ∧ Q s) → ho' s = ho s) ∧ ho' sl = nI p ∧ ho' (sl + 1) = nI ct ∧ (∀ s, s < sl → fe' s = fe s) ∧ (∀ s, s < sl → se' s = se s) ∧ fe' sl = nI u ∧ fe' (sl + 1) = nI u ∧ se' sl = nI v ∧ se' (sl + 1) = nI v
theorem sp_splitOff {u v : Nat} {post : (Nat → Int32) → (Nat → Int32) → (Nat → Int32) → (Nat → Int32) → Int32 → Int32 → Prop} (C : CP E I 100 w fe se ho sl ct) (L : Lk (Tp ho sl p) (en fe) (en se) near twice present) (hp : p < ct) (hu : u < 40) (hv : v < 40) (hc : ct ≤ 97) (hs : CSpl (Tp ho sl p) (en fe) (en se) u v)
    (h : ∀ (r x : Int64) (fe' se' ho' : Nat → Int32), (∀ p, bt x p ↔ bt present p ∧ p ≠ u ∧ p ≠ v) → (∃ p, bt x p) → (bt (twice u) v ∨ r ≠ x) → (∀ p, bt r p → bt x p) → (∀ p, bt x p → (∀ q, q < p → ¬ bt x q) → bt r p) → (∀ p q, bt r p → bt (near p) q → bt x q → bt r q) → (∀ Y : Nat → Prop, (∀ p, bt x p → (∀ q, q < p → ¬ bt x q) → Y p) → (∀ p q, Y p → bt x p → bt (near p) q → bt x q → Y q) → ∀ p, bt r p → Y p) → SpA fe se ho sl ct p u v (fun s => bt r (en fe s) ∨ bt r (en se s)) fe' se' ho' → post fe' se' ho' (upd sa ct (nI u)) (nI (sl + 2)) (nI (ct + 1))) :
    wp_Pieces_splitOff fe se ho sa near present (nI sl) (nI ct) (nI p) (nI u) (nI v) post := by
  have l := C.len
  unfold wp_Pieces_splitOff
  have e40 : ∀ s, Tp ho sl p s → en fe s < 40 ∧ en se s < 40 ∧ en fe s ≠ en se s := fun s k => C.e40 (C.Tlv (by omega) k)
  refine sp_only hu fun r1 e1 => sp_only hv fun r2 e2 x ex => ?_
  have hx := oth_bits L e40 e1 e2
  rw [← ex] at hx
  obtain ⟨⟨y, ⟨s0, hs0, k0⟩, yn⟩, hs⟩ := hs
  have ne : ∃ p, bt x p := ⟨y, (hx y).mpr ⟨(L.1 y).mpr ⟨s0, hs0, k0⟩, yn⟩⟩
  refine sp_reach (fun p k => present40 L e40 ((hx p).mp k).1) fun r c1 c2 c3 c4 => ⟨(in_nI (by omega)).mpr (by omega), fun sa' esa => ?_⟩
  have key := h r x
  rw [ix_nI (by omega)] at esa
  refine for2 sl (fun k hk => (∀ s, s < k → ho s = nI p → (bt r (en fe s) ∨ bt r (en se s)) → hk s = nI ct) ∧ (∀ s, (k ≤ s ∨ ¬ (ho s = nI p ∧ (bt r (en fe s) ∨ bt r (en se s)))) → hk s = ho s)) (by omega) 0 ho (by omega) ⟨fun s k => absurd k (by omega), fun s _ => rfl⟩ (fun K k hk hkk hJ nx => ⟨fun q => ?_, fun q => ?_⟩)
  · rw [zI_le (by omega) (by omega)] at q
    have : k = sl := by omega
    subst this
    unfold wp_Pieces_place
    have i1 : vp_in (nI k) 294 := (in_nI (by omega)).mpr (by omega)
    have i2 : vp_in (nI (k + 1)) 294 := (in_nI (by omega)).mpr (by omega)
    rw [zI_succ, zI_succ, zI_two, ix_nI (by omega), ix_nI (by omega)]
    refine ⟨i1, fun f1 ef1 => ⟨i1, fun s1 es1 => ⟨i1, fun h1 eh1 => ⟨i2, fun f2 ef2 => ⟨i2, fun s2 es2 => ⟨i2, fun h2 eh2 => ?_⟩⟩⟩⟩⟩⟩
    rw [esa]
    refine key f2 s2 h2 hx ne (sep_part L e40 hu hx c4 ne hs) c1 c2 c3 c4 ⟨fun s a b c => ?_, fun s a b => ?_, ?_, ?_, fun s a => ?_, fun s a => ?_, ?_, ?_, ?_, ?_⟩
    · rw [eh2, upd_ne (by omega), eh1, upd_ne (by omega)]; exact hJ.1 s a b c
    · rw [eh2, upd_ne (by omega), eh1, upd_ne (by omega)]; exact hJ.2 s (Or.inr b)
    · rw [eh2, upd_ne (by omega), eh1, upd_at]
    · rw [eh2, upd_at]
    · rw [ef2, upd_ne (by omega), ef1, upd_ne (by omega)]
    · rw [es2, upd_ne (by omega), es1, upd_ne (by omega)]
    · rw [ef2, upd_ne (by omega), ef1, upd_at]
    · rw [ef2, upd_at]
    · rw [es2, upd_ne (by omega), es1, upd_at]
    · rw [es2, upd_at]
  · rw [zI_le (by omega) (by omega)] at q
    have ik : vp_in (nI k) 294 := (in_nI (by omega)).mpr (by omega)
    rw [zI_succ, ix_nI (by omega)]
    have hk0 : hk k = ho k := hJ.2 k (Or.inl (by omega))
    have keep : ¬ (ho k = nI p ∧ (bt r (en fe k) ∨ bt r (en se k))) → K (nI (k + 1)) hk := fun z => nx (by omega) hk ⟨fun s a b c => by
      have : s ≠ k := fun e => z (e ▸ ⟨b, c⟩)
      exact hJ.1 s (by omega) b c, fun s a => by
      by_cases e : s = k
      · rw [e]; exact hk0
      · exact hJ.2 s (a.imp (fun a => by omega) id)⟩
    have move : ho k = nI p → (bt r (en fe k) ∨ bt r (en se k)) → ∀ h' : Nat → Int32, h' = upd hk k (nI ct) → K (nI (k + 1)) h' := fun z1 z2 h' e => nx (by omega) h' ⟨fun s a b c => by
      by_cases y : s = k
      · rw [e, y, upd_at]
      · rw [e, upd_ne y]; exact hJ.1 s (by omega) b c, fun s a => by
      by_cases y : s = k
      · subst y
        rcases a with a | a
        · omega
        · exact absurd ⟨z1, z2⟩ a
      · rw [e, upd_ne y]; exact hJ.2 s (a.imp (fun a => by omega) id)⟩
    refine ⟨ik, fun z => keep (fun y => z (hk0.trans y.1)), fun z => ⟨ik, ?_⟩⟩
    rw [hk0] at z
    have lk : livS ho sl k := C.Tlv (by omega) ⟨by omega, z⟩
    have e := C.2.1 k lk
    have d := C.e40 lk
    rw [e.1, e.2]
    refine sp_holds d.1 (fun y => ⟨fun _ => ⟨ik, fun h' eh => move z (Or.inl y) h' eh⟩, fun k => absurd k (by decide)⟩) (fun y => ⟨fun k => absurd rfl k, fun _ => ⟨ik, ?_⟩⟩)
    exact sp_holds d.2.1 (fun y' => ⟨fun k => absurd k (by decide), fun _ => ⟨ik, fun h' eh => move z (Or.inr y') h' eh⟩⟩) (fun y' => ⟨fun _ => keep (fun a => a.2.elim y y'), fun k => absurd rfl k⟩)
/-- at the side that came off first, a joint is the only slot of its ends, and its piece does not come apart there -/
def IJ (fe se ho : Nat → Int32) (sl : Nat) : Prop := ∀ j q, 100 ≤ j → j % 2 = 1 → j < sl → q < 98 → ho j = nI q → ¬ Spl (Tp ho sl q) (en fe) (en se) (en fe j) (en se j) ∧ ∀ s, Tp ho sl q s → ((en fe s = en fe j ∧ en se s = en se j) ∨ (en fe s = en se j ∧ en se s = en fe j)) → s = j
/-- below lo all is done, from hi on a piece is clear of all pairs before its start -/
def BP (E : Nat → Prop) (I : Nat → Nat → Prop) (w : Nat → Nat) (fe se ho sa kq : Nat → Int32) (sl ct lo hi : Nat) : Prop :=
  CP E I 100 w fe se ho sl ct ∧ IJ fe se ho sl ∧ sa 0 = nI 0 ∧ (∀ q, q < lo → q < ct → kq q = kof (Tp ho sl q) (en fe) (en se) ∧ ∀ u v, u < v → v < 40 → ¬ CSpl (Tp ho sl q) (en fe) (en se) u v) ∧
  (∀ q, hi ≤ q → q < ct → ∃ a, a ≤ 40 ∧ sa q = nI a ∧ ∀ u v, u < v → v < 40 → u < a → ¬ CSpl (Tp ho sl q) (en fe) (en se) u v)
/-- the piece p is clear of all pairs before u, v -/
def AP (E : Nat → Prop) (I : Nat → Nat → Prop) (w : Nat → Nat) (kq : Nat → Int32) (p a c : Nat) (fe se ho sa : Nat → Int32) (sl ct : Nat) : Prop :=
  BP E I w fe se ho sa kq sl ct p (p + 1) ∧ p < ct ∧ ∀ u v, u < v → v < 40 → (u < a ∨ (u = a ∧ v < c)) → ¬ CSpl (Tp ho sl p) (en fe) (en se) u v
theorem AP.split {u v : Nat} {fe' se' ho' : Nat → Int32} {r x : Int64} (g : Gr E I) (h2 : Two E I) (A : AP E I w kq p u v fe se ho sa sl ct) (uv : u < v) (hv : v < 40) (L : Lk (Tp ho sl p) (en fe) (en se) near twice present)
    (hx : ∀ p, bt x p ↔ bt present p ∧ p ≠ u ∧ p ≠ v) (ne : ∃ p, bt x p) (tw : bt (twice u) v ∨ r ≠ x) (c1 : ∀ p, bt r p → bt x p) (c2 : ∀ p, bt x p → (∀ q, q < p → ¬ bt x q) → bt r p) (c3 : ∀ p q, bt r p → bt (near p) q → bt x q → bt r q) (c4 : ∀ Y : Nat → Prop, (∀ p, bt x p → (∀ q, q < p → ¬ bt x q) → Y p) → (∀ p q, Y p → bt x p → bt (near p) q → bt x q → Y q) → ∀ p, bt r p → Y p)
    (X : SpA fe se ho sl ct p u v (fun s => bt r (en fe s) ∨ bt r (en se s)) fe' se' ho') :
    AP E I w kq p u v fe' se' ho' (upd sa ct (nI u)) (sl + 2) (ct + 1) ∧ cnt 40 (Pts (Tp ho' (sl + 2) p) (en fe') (en se')) < cnt 40 (Pts (Tp ho sl p) (en fe) (en se)) := by
  obtain ⟨⟨C, ij, sa0, lo, hi⟩, pc, cur⟩ := A
  have l := C.len
  have c98 := C.ct98
  have pI : p < 2147483648 := by omega
  have e40 : ∀ s, Tp ho sl p s → en fe s < 40 ∧ en se s < 40 ∧ en fe s ≠ en se s := fun s k => C.e40 (C.Tlv pI k)
  obtain ⟨q2, r2, com⟩ := part_sep L (fun s k => ⟨(e40 s k).1, (e40 s k).2.1⟩) (fun s y hs k => C.two pI hs k) (by omega) hx c1 c2 c3 ne tw
  generalize hQ : (fun s => bt r (en fe s) ∨ bt r (en se s)) = Q at X
  have Qd : ∀ s, Q s ↔ (bt r (en fe s) ∨ bt r (en se s)) := fun s => by rw [← hQ]
  simp only [← Qd] at q2 r2 com
  obtain ⟨ct97, spl⟩ := C.split g h2 (u := u) (v := v) pc (by omega) hv (by omega) q2 r2 com
  obtain ⟨x1, x2, x3, x4, x5, x6, x7, x8, x9, x10⟩ := id X
  obtain ⟨C', tp, tc, tq⟩ := spl fe' se' ho' x1 x2 x3 x4 x5 x6 x7 x8 x9 x10
  have fU : ∀ s, s < sl → en fe' s = en fe s := fun s k => by unfold en; rw [x5 s k]
  have fV : ∀ s, s < sl → en se' s = en se s := fun s k => by unfold en; rw [x6 s k]
  have jU : en fe' sl = u := by unfold en; rw [x7, ix_nI (by omega)]
  have jV : en se' sl = v := by unfold en; rw [x9, ix_nI (by omega)]
  have jU' : en fe' (sl + 1) = u := by unfold en; rw [x8, ix_nI (by omega)]
  have jV' : en se' (sl + 1) = v := by unfold en; rw [x10, ix_nI (by omega)]
  -- what comes apart of the parts
  have sp : ∀ a b, Spl (Tp ho' (sl + 2) p) (en fe') (en se') a b → Spl (Tp ho sl p) (en fe) (en se) a b := fun a b k =>
    spl_part (Q := Q) (j := sl) (u := u) (v := v) tp q2 com (fun s hs _ => fU s hs.1) (fun s hs _ => fV s hs.1) jU jV k
  have sc : ∀ a b, Spl (Tp ho' (sl + 2) ct) (en fe') (en se') a b → Spl (Tp ho sl p) (en fe) (en se) a b := fun a b k =>
    spl_part (Q := fun s => ¬ Q s) (j := sl + 1) (u := u) (v := v) (fun s => (tc s).trans (or_congr_left (and_congr_right fun _ => Classical.not_not.symm))) r2 (Spl_not com) (fun s hs _ => fU s hs.1) (fun s hs _ => fV s hs.1) jU' jV' k
  -- points of the parts
  have ptp : ∀ y, Pts (Tp ho' (sl + 2) p) (en fe') (en se') y → Pts (Tp ho sl p) (en fe) (en se) y ∧ ¬ bt r y := fun y k => by
    have old : ∀ s, Tp ho sl p s ∧ ¬ Q s → (y = en fe' s ∨ y = en se' s) → Pts (Tp ho sl p) (en fe) (en se) y ∧ ¬ bt r y := fun s hs k => by
      rw [fU s hs.1.1, fV s hs.1.1] at k
      refine ⟨⟨s, hs.1, k⟩, fun z => hs.2 ((Qd s).mpr ?_)⟩
      rcases k with k | k
      · exact Or.inl (k ▸ z)
      · exact Or.inr (k ▸ z)
    obtain ⟨s, hs, k⟩ := k
    rcases (tp s).mp hs with hs' | rfl
    · exact old s hs' k
    · obtain ⟨t, ht, ts, k'⟩ := C'.two pI hs k
      exact old t (((tp t).mp ht).resolve_right ts) k'
  have ptc : ∀ y, Pts (Tp ho' (sl + 2) ct) (en fe') (en se') y → Pts (Tp ho sl p) (en fe) (en se) y := fun y k => by
    have old : ∀ s, Tp ho sl p s ∧ Q s → (y = en fe' s ∨ y = en se' s) → Pts (Tp ho sl p) (en fe) (en se) y := fun s hs k => by
      rw [fU s hs.1.1, fV s hs.1.1] at k
      exact ⟨s, hs.1, k⟩
    obtain ⟨s, hs, k⟩ := k
    rcases (tc s).mp hs with hs' | rfl
    · exact old s hs' k
    · obtain ⟨t, ht, ts, k'⟩ := C'.two (by omega) hs k
      exact old t (((tc t).mp ht).resolve_right ts) k'
  have csp : ∀ a b, CSpl (Tp ho' (sl + 2) p) (en fe') (en se') a b → CSpl (Tp ho sl p) (en fe) (en se) a b := fun a b ⟨⟨y, k, n⟩, z⟩ => ⟨⟨y, (ptp y k).1, n⟩, sp a b z⟩
  have csc : ∀ a b, CSpl (Tp ho' (sl + 2) ct) (en fe') (en se') a b → CSpl (Tp ho sl p) (en fe) (en se) a b := fun a b ⟨⟨y, k, n⟩, z⟩ => ⟨⟨y, ptc y k, n⟩, sc a b z⟩
  have csq : ∀ q, q < ct → q ≠ p → ∀ a b, CSpl (Tp ho' (sl + 2) q) (en fe') (en se') a b → CSpl (Tp ho sl q) (en fe) (en se) a b := fun q hq qp a b k => CSpl_congr k (tq q hq qp) (fun s hs => fU s ((tq q hq qp s).mp hs).1) (fun s hs => fV s ((tq q hq qp s).mp hs).1)
  refine ⟨⟨⟨C', ?_, ?_, fun q hq hq' => ?_, fun q hq hq' => ?_⟩, by omega, fun a b ab hb k z => cur a b ab hb k (csp a b z)⟩, ?_⟩
  · -- the joints
    intro j q hj jo jl hq ej
    by_cases z : j = sl + 1
    · subst z
      have : q = ct := by rw [x4, zI_eq (by omega) (by omega)] at ej; omega
      subst this
      rw [jU', jV']
      refine ⟨fun k => ?_, fun s hs k => ?_⟩
      · -- all that is split off hangs together
        obtain ⟨p0, h0⟩ := ne
        obtain ⟨y0, -, hy0, ly0⟩ := least_of (P := bt x) h0
        have ry0 := c2 y0 hy0 ly0
        have out : ∀ y, bt r y → ¬ (y = u ∨ y = v) := fun y k z => by have := (hx y).mp (c1 y k); omega
        have tch : ∀ s y, Tp ho sl p s → bt r y → (y = en fe s ∨ y = en se s) → Q s := fun s y hs k z => (Qd s).mpr (by
          rcases z with z | z
          · exact Or.inl (z ▸ k)
          · exact Or.inr (z ▸ k))
        obtain ⟨s0, hs0, k0⟩ := (L.1 y0).mp ((hx y0).mp hy0).1
        have new : ∀ s, Tp ho sl p s → Q s → Tp ho' (sl + 2) q s := fun s hs k => (tc s).mpr (Or.inl ⟨hs, k⟩)
        have main : ∀ R : Nat → Prop, R s0 → (∃ s t, Tp ho' (sl + 2) q s ∧ Tp ho' (sl + 2) q t ∧ ¬ R s ∧ ¬ R t ∧ s ≠ t) → (∀ s t x, Tp ho' (sl + 2) q s → Tp ho' (sl + 2) q t → R s → ¬ R t → (x = en fe' s ∨ x = en se' s) → (x = en fe' t ∨ x = en se' t) → x = u ∨ x = v) → False := by
          intro R R0 ⟨s, t, hs, ht, ns, nt, st⟩ cm
          have same : ∀ s t y, Tp ho sl p s → Tp ho sl p t → bt r y → (y = en fe s ∨ y = en se s) → (y = en fe t ∨ y = en se t) → R s → R t := fun s t y hs ht ry ks kt rs => Classical.byContradiction fun nt =>
            out y ry (cm s t y (new s hs (tch s y hs ry ks)) (new t ht (tch t y ht ry kt)) rs nt (by rw [fU s hs.1, fV s hs.1]; exact ks) (by rw [fU t ht.1, fV t ht.1]; exact kt))
          have all : ∀ y, bt r y → bt r y → ∀ t, Tp ho sl p t → (y = en fe t ∨ y = en se t) → R t := by
            refine c4 (fun y => bt r y → ∀ t, Tp ho sl p t → (y = en fe t ∨ y = en se t) → R t) (fun y hy ly ry t ht kt => ?_) (fun y z hy xy ny xz rz t ht kt => ?_)
            · have : y = y0 := by
                have : ¬ y < y0 := fun k => ly0 y k hy
                have : ¬ y0 < y := fun k => ly y0 k hy0
                omega
              subst this
              exact same s0 t y hs0 ht ry k0 kt R0
            · obtain ⟨s, hs, ks⟩ := (L.2.1 y z (present40 L e40 ((hx y).mp xy).1)).mp ny
              have ry : bt r y := c3 z y rz ((L.2.1 z y (present40 L e40 ((hx z).mp xz).1)).mpr ⟨s, hs, by omega⟩) xy
              exact same s t z hs ht rz (by omega) kt (hy ry s hs (by omega))
          have allQ : ∀ s, Tp ho sl p s → Q s → R s := fun s hs k => by
            rcases (Qd s).mp k with k | k
            · exact all _ k k s hs (Or.inl rfl)
            · exact all _ k k s hs (Or.inr rfl)
          have only : ∀ s, Tp ho' (sl + 2) q s → ¬ R s → s = sl + 1 := fun s hs ns => ((tc s).mp hs).resolve_left (fun k => ns (allQ s k.1 k.2))
          exact st ((only s hs ns).trans (only t ht nt).symm)
        obtain ⟨R, ⟨a, b, ha, hb, ra, rb, ab⟩, n2, cm⟩ := k
        by_cases R0 : R s0
        · exact main R R0 n2 cm
        · exact main (fun s => ¬ R s) R0 ⟨a, b, ha, hb, fun k => k ra, fun k => k rb, ab⟩ (Spl_not cm)
      · rcases (tc s).mp hs with ⟨hs', k'⟩ | rfl
        · rw [fU s hs'.1, fV s hs'.1] at k
          rcases (Qd s).mp k' with z | z <;> have := (hx _).mp (c1 _ z) <;> omega
        · rfl
    · have jl' : j < sl := by omega
      have lj := C.2.2.2.2.2.2.2.2 j hj jl'
      obtain ⟨q0, hq0, e0⟩ := C.2.2.1 j lj
      obtain ⟨i1, i2⟩ := ij j q0 hj jo jl' (by omega) e0
      rw [fU j jl', fV j jl']
      by_cases y : q0 = p
      · subst y
        have nuv : ¬ ((u = en fe j ∧ v = en se j) ∨ (u = en se j ∧ v = en fe j)) := fun k => by
          have s0 : Spl (Tp ho sl q0) (en fe) (en se) u v := ⟨Q, q2, r2, com⟩
          rcases k with ⟨k1, k2⟩ | ⟨k1, k2⟩
          · exact i1 (k1 ▸ k2 ▸ s0)
          · exact i1 (k1 ▸ k2 ▸ Spl_symm s0)
        by_cases z : Q j
        · have : q = ct := by rw [x1 j jl' e0 z, zI_eq (by omega) (by omega)] at ej; omega
          subst this
          refine ⟨fun k => i1 (sc _ _ k), fun s hs k => ?_⟩
          rcases (tc s).mp hs with ⟨hs', k'⟩ | rfl
          · rw [fU s hs'.1, fV s hs'.1] at k
            exact i2 s hs' k
          · rw [jU', jV'] at k; omega
        · have : q = q0 := by rw [x2 j jl' (fun y => z y.2), e0, zI_eq (by omega) (by omega)] at ej; omega
          subst this
          refine ⟨fun k => i1 (sp _ _ k), fun s hs k => ?_⟩
          rcases (tp s).mp hs with ⟨hs', k'⟩ | rfl
          · rw [fU s hs'.1, fV s hs'.1] at k
            exact i2 s hs' k
          · rw [jU, jV] at k; omega
      · have : q = q0 := by
          rw [x2 j jl' (fun z => y (by have := e0.symm.trans z.1; rw [zI_eq (by omega) (by omega)] at this; exact this)), e0, zI_eq (by omega) (by omega)] at ej; omega
        subst this
        refine ⟨fun k => i1 (Spl_congr k (tq q hq0 y) (fun s hs => fU s ((tq q hq0 y s).mp hs).1) (fun s hs => fV s ((tq q hq0 y s).mp hs).1)), fun s hs k => ?_⟩
        have hs' := (tq q hq0 y s).mp hs
        rw [fU s hs'.1, fV s hs'.1] at k
        exact i2 s hs' k
  · rw [upd_ne (by have := C.ct1; omega)]; exact sa0
  · -- the pieces that are done
    have qp : q ≠ p := by omega
    obtain ⟨k1, k2⟩ := lo q hq (by omega)
    refine ⟨k1.trans (kof_congr (fun s => (tq q (by omega) qp s).symm) (fun s hs => (fU s hs.1).symm) (fun s hs => (fV s hs.1).symm)), fun a b ab hb k => k2 a b ab hb (csq q (by omega) qp a b k)⟩
  · -- the pieces to come
    by_cases z : q = ct
    · subst z
      refine ⟨u, by omega, upd_at, fun a b ab hb au k => cur a b ab hb (Or.inl au) (csc a b k)⟩
    · have qp : q ≠ p := by omega
      obtain ⟨a0, ha0, e0, k0⟩ := hi q hq (by omega)
      exact ⟨a0, ha0, by rw [upd_ne z]; exact e0, fun a b ab hb au k => k0 a b ab hb au (csq q (by omega) qp a b k)⟩
  · -- fewer points
    obtain ⟨p0, h0⟩ := ne
    obtain ⟨y0, -, hy0, ly0⟩ := least_of (P := bt x) h0
    refine cnt_lt (fun y _ k => (ptp y k).1) (u := y0) (present40 L e40 ((hx y0).mp hy0).1) ((L.1 y0).mp ((hx y0).mp hy0).1) (fun k => (ptp y0 k).2 (c2 y0 hy0 ly0))
end
