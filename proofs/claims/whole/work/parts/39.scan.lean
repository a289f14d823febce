/-! PURE PART XIII: the class's walk over all pairs -/
section
variable {E : Nat → Prop} {I : Nat → Nat → Prop} {w : Nat → Nat} {fe se ho sa kq : Nat → Int32} {sl ct p : Nat} {near twice : Nat → Int64} {present : Int64}
theorem CP.spl97 {b : Nat} (C : CP E I b w fe se ho sl ct) (g : Gr E I) (h2 : Two E I) {u v : Nat} (hp : p < ct) (hu : u < 40) (hv : v < 40) (huv : u ≠ v) (h : Spl (Tp ho sl p) (en fe) (en se) u v) : ct ≤ 97 := by
  obtain ⟨Q, q2, r2, com⟩ := h
  exact (C.split g h2 hp hu hv huv q2 r2 com).1
theorem sp_splitAt {u v : Nat} {post : (Nat → Int32) → (Nat → Int32) → (Nat → Int32) → (Nat → Int32) → (Nat → Int64) → (Nat → Int64) → Int64 → Int32 → Int32 → Prop} (g : Gr E I) (h2 : Two E I) (A : AP E I w kq p u v fe se ho sa sl ct) (uv : u < v) (hv : v < 40) (L : Lk (Tp ho sl p) (en fe) (en se) near twice present)
    (h : ∀ fe se ho sa near twice present sl ct, AP E I w kq p u (v + 1) fe se ho sa sl ct → Lk (Tp ho sl p) (en fe) (en se) near twice present → post fe se ho sa near twice present (nI sl) (nI ct)) :
    wp_Pieces_splitAt fe se ho sa near twice present (nI sl) (nI ct) (nI p) (nI u) (nI v) post := by
  unfold wp_Pieces_splitAt
  refine for10 40 (fun k fe se ho sa near twice present s c => ∃ sl ct, s = nI sl ∧ c = nI ct ∧ AP E I w kq p u v fe se ho sa sl ct ∧ Lk (Tp ho sl p) (en fe) (en se) near twice present ∧ k + cnt 40 (Pts (Tp ho sl p) (en fe) (en se)) ≤ 40) (by omega) 0 fe se ho sa near twice present (nI sl) (nI ct) (by omega) ⟨sl, ct, rfl, rfl, A, L, by have := cnt_le 40 (Pts (Tp ho sl p) (en fe) (en se)); omega⟩ ?_
  rintro K k fe se ho sa near twice present _ _ hk ⟨sl, ct, rfl, rfl, A, L, hm⟩ nx
  have C := A.1.1
  have pc := A.2.1
  have c98 := C.ct98
  have e40 : ∀ s, Tp ho sl p s → en fe s < 40 ∧ en se s < 40 ∧ en fe s ≠ en se s := fun s k => C.e40 (C.Tlv (by omega) k)
  have fin : ¬ CSpl (Tp ho sl p) (en fe) (en se) u v → post fe se ho sa near twice present (nI sl) (nI ct) := fun z => h _ _ _ _ _ _ _ sl ct ⟨A.1, pc, fun a b ab hb k y => by
    by_cases e : a = u ∧ b = v
    · rw [e.1, e.2] at y; exact z y
    · exact A.2.2 a b ab hb (by omega) y⟩ L
  refine ⟨fun q => ?_, fun q => ⟨fun q2 => ?_, fun q2 => ?_⟩⟩
  · rw [L40, zI_le (by omega) (by omega)] at q
    exfalso
    obtain ⟨s, hs⟩ := C.2.2.2.1 p pc
    exact cnt_zero (n := 40) (P := Pts (Tp ho sl p) (en fe) (en se)) (by omega) (e40 s hs).1 ⟨s, hs, Or.inl rfl⟩
  · rw [L98, zI_le (by omega) (by omega)] at q2
    refine fin fun z => ?_
    have := C.spl97 g h2 pc (by omega) hv (by omega) z.2
    omega
  · rw [L40, zI_le (by omega) (by omega)] at q
    refine sp_comeApartAt L e40 (fun s y hs k => C.two (by omega) hs k) (by omega) hv (fun z1 z2 => ⟨fun k => absurd k (by decide), fun _ => ?_⟩) (fun z => ⟨fun _ => fin fun y => ?_, fun k => absurd rfl k⟩)
    · have cs : CSpl (Tp ho sl p) (en fe) (en se) u v := by
        obtain ⟨s, y, hs, ky, n⟩ := z1
        exact ⟨⟨y, ⟨s, hs, ky⟩, n⟩, z2⟩
      refine sp_splitOff C L pc (by omega) hv (C.spl97 g h2 pc (by omega) hv (by omega) z2) cs fun r x fe' se' ho' hx ne tw c1 c2 c3 c4 X => ?_
      obtain ⟨A', lt⟩ := A.split g h2 uv hv L hx ne tw c1 c2 c3 c4 X
      refine sp_linkPiece A'.1.1 (by omega) fun n t r L' => ?_
      rw [zI_succ]
      exact nx (by omega) _ _ _ _ _ _ _ _ _ ⟨sl + 2, ct + 1, rfl, rfl, A', L', by omega⟩
    · obtain ⟨⟨x, ⟨s, hs, kx⟩, n⟩, k⟩ := y
      exact z ⟨s, x, hs, kx, n⟩ k
theorem sp_comeApartFrom {post : (Nat → Int32) → (Nat → Int32) → (Nat → Int32) → (Nat → Int32) → (Nat → Int64) → (Nat → Int64) → Int64 → Int32 → Int32 → Prop} (g : Gr E I) (h2 : Two E I) (B : BP E I w fe se ho sa kq sl ct p p) (pc : p < ct)
    (h : ∀ fe se ho sa near twice present sl ct, BP E I w fe se ho sa kq sl ct p (p + 1) → p < ct → (∀ u v, u < v → v < 40 → ¬ CSpl (Tp ho sl p) (en fe) (en se) u v) → Lk (Tp ho sl p) (en fe) (en se) near twice present → post fe se ho sa near twice present (nI sl) (nI ct)) :
    wp_Pieces_comeApartFrom fe se ho sa near twice present (nI sl) (nI ct) (nI p) post := by
  have C := B.1
  have c98 := C.ct98
  unfold wp_Pieces_comeApartFrom
  refine sp_linkPiece C (by omega) fun n1 t1 r1 L1 => ⟨(in_nI (by omega)).mpr (by omega), ?_⟩
  obtain ⟨a0, ha0, e0, k0⟩ := B.2.2.2.2 p (Nat.le_refl _) pc
  rw [ix_nI (by omega), e0]
  have A0 : AP E I w kq p a0 (a0 + 1) fe se ho sa sl ct := ⟨⟨B.1, B.2.1, B.2.2.1, B.2.2.2.1, fun q hq => B.2.2.2.2 q (by omega)⟩, pc, fun a b ab hb k => k0 a b ab hb (by omega)⟩
  refine for10 40 (fun k fe se ho sa near twice present s c => ∃ sl ct, s = nI sl ∧ c = nI ct ∧ AP E I w kq p k (k + 1) fe se ho sa sl ct ∧ Lk (Tp ho sl p) (en fe) (en se) near twice present) (by omega) a0 fe se ho sa n1 t1 r1 (nI sl) (nI ct) ha0 ⟨sl, ct, rfl, rfl, A0, L1⟩ ?_
  rintro K u fe se ho sa near twice present _ _ hu ⟨sl, ct, rfl, rfl, A, L⟩ nx
  refine ⟨fun q => ?_, fun q => ?_⟩
  · rw [L40, zI_le (by omega) (by omega)] at q
    exact h _ _ _ _ _ _ _ sl ct A.1 A.2.1 (fun a b ab hb => A.2.2 a b ab hb (by omega)) L
  · rw [L40, zI_le (by omega) (by omega)] at q
    rw [zI_succ]
    refine for10 40 (fun k fe se ho sa near twice present s c => ∃ sl ct, s = nI sl ∧ c = nI ct ∧ u + 1 ≤ k ∧ AP E I w kq p u k fe se ho sa sl ct ∧ Lk (Tp ho sl p) (en fe) (en se) near twice present) (by omega) (u + 1) fe se ho sa near twice present (nI sl) (nI ct) (by omega) ⟨sl, ct, rfl, rfl, Nat.le_refl _, A, L⟩ ?_
    rintro K2 v fe se ho sa near twice present _ _ hv ⟨sl, ct, rfl, rfl, uv, A, L⟩ nx2
    have C := A.1.1
    have pc := A.2.1
    have c98 := C.ct98
    have out : (∀ a b, a < b → b < 40 → a = u → v ≤ b → ¬ CSpl (Tp ho sl p) (en fe) (en se) a b) → K (nI u + 1) fe se ho sa near twice present (nI sl) (nI ct) := fun z => by
      rw [zI_succ]
      refine nx (by omega) _ _ _ _ _ _ _ _ _ ⟨sl, ct, rfl, rfl, ⟨A.1, pc, fun a b ab hb k => ?_⟩, L⟩
      by_cases y : a = u ∧ v ≤ b
      · exact z a b ab hb y.1 y.2
      · exact A.2.2 a b ab hb (by omega)
    refine ⟨fun q2 => ?_, fun q2 => ?_⟩
    · rw [L40, zI_le (by omega) (by omega)] at q2
      rw [← zI_succ]
      exact out fun a b ab hb e k => by omega
    · rw [L40, zI_le (by omega) (by omega)] at q2
      have skip : ∀ c, u < c → c < 40 → (¬ bt present u ∨ ¬ bt present c) → ¬ CSpl (Tp ho sl p) (en fe) (en se) u c := fun c uc hc z y => by
        rcases z with z | z
        · exact z ((L.1 u).mpr (C.pts g h2 (by omega) y.2 (Or.inl rfl)))
        · exact z ((L.1 c).mpr (C.pts g h2 (by omega) y.2 (Or.inr rfl)))
      rw [← zI_succ u, ← zI_succ v] at *
      refine sp_holds (by omega) (fun z => ⟨fun k => absurd k (by decide), fun _ => ?_⟩) (fun z => ⟨fun _ => out fun a b ab hb e k => ?_, fun k => absurd rfl k⟩)
      · refine sp_holds (by omega) (fun z' => ⟨fun k => absurd k (by decide), fun _ => ?_⟩) (fun z' => ⟨fun _ => ?_, fun k => absurd rfl k⟩)
        · refine sp_splitAt g h2 A (by omega) (by omega) L fun fe se ho sa near twice present sl ct A' L' => ?_
          exact nx2 (by omega) _ _ _ _ _ _ _ _ _ ⟨sl, ct, rfl, rfl, by omega, A', L'⟩
        · refine nx2 (by omega) _ _ _ _ _ _ _ _ _ ⟨sl, ct, rfl, rfl, by omega, ⟨A.1, pc, fun a b ab hb k => ?_⟩, L⟩
          by_cases y : a = u ∧ b = v
          · rw [y.1, y.2]; exact skip v (by omega) (by omega) (Or.inr z')
          · exact A.2.2 a b ab hb (by omega)
      · rw [e]; exact skip b (by omega) hb (Or.inl z)
theorem sp_kindByPoints {T : Nat → Prop} {U V : Nat → Nat} {post : Int32 → Prop} (L : Lk T U V near twice present) (e40 : ∀ s, T s → U s < 40 ∧ V s < 40 ∧ U s ≠ V s) (h : post (kof T U V)) : wp_Pieces_kindByPoints present post := by
  unfold wp_Pieces_kindByPoints
  refine bcn_wp ?_
  rw [bcn_cnt (fun p hp => present40 L e40 hp)]
  have e : cnt 40 (bt present) = cnt 40 (Pts T U V) := cnt_congr fun x _ => L.1 x
  rw [e]
  have l := cnt_le 40 (Pts T U V)
  unfold kof at h
  rw [L2, L3, zI_eq (by omega) (by omega), zI_eq (by omega) (by omega)]
  refine ⟨fun a => ⟨fun b => ?_, fun b => ?_⟩, fun a => ?_⟩
  · rw [if_neg a, if_neg b] at h; exact h
  · rw [if_neg a, if_pos b] at h; exact h
  · rw [if_pos a] at h; exact h
theorem sp_comeApartWholly {post : (Nat → Int32) → (Nat → Int32) → (Nat → Int32) → (Nat → Int32) → (Nat → Int32) → (Nat → Int64) → (Nat → Int64) → Int64 → Int32 → Int32 → Prop} (g : Gr E I) (h2 : Two E I) (B : BP E I w fe se ho sa kq sl ct 0 0)
    (h : ∀ fe se ho kq sa near twice present sl ct, BP E I w fe se ho sa kq sl ct ct ct → post fe se ho kq sa near twice present (nI sl) (nI ct)) :
    wp_Pieces_comeApartWholly fe se ho kq sa near twice present (nI sl) (nI ct) post := by
  unfold wp_Pieces_comeApartWholly
  refine for11 98 (fun k fe se ho kq sa near twice present s c => ∃ sl ct, s = nI sl ∧ c = nI ct ∧ k ≤ ct ∧ BP E I w fe se ho sa kq sl ct k k) (by omega) 0 fe se ho kq sa near twice present (nI sl) (nI ct) (by omega) ⟨sl, ct, rfl, rfl, by omega, B⟩ ?_
  rintro K k fe se ho kq sa near twice present _ _ hk ⟨sl, ct, rfl, rfl, kc, B⟩ nx
  have c98 := B.1.ct98
  refine ⟨fun q => ?_, fun q => ⟨fun q2 => ?_, fun q2 => ?_⟩⟩
  · rw [L98, zI_le (by omega) (by omega)] at q
    have : k = ct := by omega
    subst this
    exact h _ _ _ _ _ _ _ _ sl k B
  · rw [zI_le (by omega) (by omega)] at q2
    have : k = ct := by omega
    subst this
    exact h _ _ _ _ _ _ _ _ sl k B
  · rw [L98, zI_le (by omega) (by omega)] at q
    rw [zI_le (by omega) (by omega)] at q2
    refine sp_comeApartFrom g h2 B (by omega) fun fe se ho sa near twice present sl ct B' pc no L => ?_
    refine sp_kindByPoints L (fun s hs => B'.1.e40 (B'.1.Tlv (by omega) hs)) ⟨(in_nI (by omega)).mpr (by omega), fun kq' ek => ?_⟩
    rw [ix_nI (by omega)] at ek
    rw [zI_succ]
    refine nx (by omega) _ _ _ _ _ _ _ _ _ _ ⟨sl, ct, rfl, rfl, by omega, B'.1, B'.2.1, B'.2.2.1, fun q hq hc => ?_, B'.2.2.2.2⟩
    by_cases z : q = k
    · subst z
      exact ⟨by rw [ek, upd_at], no⟩
    · rw [ek, upd_ne z]; exact B'.2.2.2.1 q (by omega) hc
end
