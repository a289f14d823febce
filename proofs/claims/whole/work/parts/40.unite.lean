/-! PURE PART XIV: the pieces' kinds; uniting those of a kind -/
def kdf (kq : Nat → Int32) (p : Int) : Int := (kq p.toNat).toInt
section
variable {E : Nat → Prop} {I : Nat → Nat → Prop} {b : Nat} {w : Nat → Nat} {fe se ho ho' kq : Nat → Int32} {sl ct p : Nat} {κ : Nat → Int}
theorem kdf_nI {q : Nat} (hq : q < 2147483648) (h : ho p = nI q) : kdf kq (hm ho p) = (kq q).toInt := by
  unfold kdf
  rw [(hm_nI hq).mpr h]
  rfl
theorem CP.knd (C : CP E I b w fe se ho sl ct) (h2 : Two E I) (hk : ∀ q, q < ct → kq q = kof (Tp ho sl q) (en fe) (en se)) (no : ∀ q, q < ct → ∀ u v, u < v → v < 40 → ¬ CSpl (Tp ho sl q) (en fe) (en se) u v) :
    ∃ M, Bas E I (livS ho sl) (hm ho) (en fe) (en se) M (ptb b) b w ∧ ∀ s, livS ho sl s → Knd E I (livS ho sl) (hm ho) M (kdf kq) s := by
  obtain ⟨⟨M, B⟩, c1, c2, c3, c4, c5, c6, c7, c8⟩ := id C
  refine ⟨M, B, fun s hs => ?_⟩
  obtain ⟨q, hq, e⟩ := c2 s hs
  have qI : q < 2147483648 := by omega
  have eT : ∀ t, Tp ho sl q t ↔ livS ho sl t ∧ hm ho t = hm ho s := fun t => by rw [Tp_iff qI, (hm_nI qI).mpr e]
  have eP : ∀ x, (∃ t, livS ho sl t ∧ hm ho t = hm ho s ∧ (x = en fe t ∨ x = en se t)) ↔ Pts (Tp ho sl q) (en fe) (en se) x := fun x =>
    ⟨fun ⟨t, ht, et, k⟩ => ⟨t, (eT t).mpr ⟨ht, et⟩, k⟩, fun ⟨t, ht, k⟩ => ⟨t, ((eT t).mp ht).1, ((eT t).mp ht).2, k⟩⟩
  have eC := cnt_congr (n := 40) (fun x _ => eP x)
  refine knd_of h2 B hs (fun n2 u v uv hv k => ?_) ?_
  · rw [eC] at n2
    refine no q hq u v uv hv ⟨?_, Spl_congr k (fun t => (eT t).symm) (fun _ _ => rfl) (fun _ _ => rfl)⟩
    refine Classical.byContradiction fun z => n2 ?_
    have a : cnt 40 (Pts (Tp ho sl q) (en fe) (en se)) ≤ 2 := cnt_le2 (u := u) (v := v) fun x _ k => Classical.byContradiction fun y => z ⟨x, k, fun e => y (Or.inl e), fun e => y (Or.inr e)⟩
    have t := (Tp_iff qI).mpr ⟨hs, (hm_nI qI).mpr e⟩
    have d := C.e40 hs
    have b2 : 2 ≤ cnt 40 (Pts (Tp ho sl q) (en fe) (en se)) := cnt_ge2 d.1 d.2.1 d.2.2 ⟨s, t, Or.inl rfl⟩ ⟨s, t, Or.inr rfl⟩
    omega
  · rw [kdf_nI qI e, hk q hq, eC]
    unfold kof
    by_cases z : cnt 40 (Pts (Tp ho sl q) (en fe) (en se)) = 2
    · rw [if_pos z, if_pos z]; rfl
    · rw [if_neg z, if_neg z]
      by_cases y : cnt 40 (Pts (Tp ho sl q) (en fe) (en se)) = 3
      · rw [if_pos y, if_pos y]; rfl
      · rw [if_neg y, if_neg y]; rfl
/-- while pieces are united: joints before k are done; κ tells the kind of a slot's piece, which stays -/
def MP (E : Nat → Prop) (I : Nat → Nat → Prop) (b : Nat) (w : Nat → Nat) (fe se : Nat → Int32) (kq : Nat → Int32) (κ : Nat → Int) (sl ct k : Nat) (ho : Nat → Int32) : Prop :=
  ∃ M, Bas E I (livS ho sl) (hm ho) (en fe) (en se) M (ptb b) b w ∧ (∀ s, livS ho sl s → Knd E I (livS ho sl) (hm ho) M (kdf kq) s) ∧ (∀ s, livS ho sl s → kdf kq (hm ho s) = κ s) ∧ (∀ s, livS ho sl s → ∃ p, p < ct ∧ ho s = nI p) ∧
  (∀ s, b ≤ s → k ≤ s → s < sl → livS ho sl s) ∧ (∀ s, b ≤ s → s < k → livS ho sl s → ¬ (κ s = κ (ptb b s) ∧ κ s ≠ 2)) ∧ (∀ s, livS ho sl s → fe s = nI (en fe s) ∧ se s = nI (en se s)) ∧ sl + 2 = b + 2 * ct ∧ 1 ≤ ct ∧ b ≤ 100 ∧ ct ≤ 98
theorem MP.keep {j : Nat} (P : MP E I b w fe se kq κ sl ct j ho) (hb : b ≤ j) (ev : (j - b) % 2 = 0) (n : ¬ (κ j = κ (j + 1) ∧ κ j ≠ 2)) : MP E I b w fe se kq κ sl ct (j + 2) ho := by
  obtain ⟨M, m1, m2, m3, m4, m5, m6, m7⟩ := P
  refine ⟨M, m1, m2, m3, m4, fun s a c => m5 s a (by omega), fun s a c l k => ?_, m7⟩
  by_cases z : s < j
  · exact m6 s a z l k
  by_cases y : s = j
  · subst y
    rw [ptb, if_pos ev] at k
    exact n k
  · have : s = j + 1 := by omega
    subst this
    rw [ptb, if_neg (by omega), Nat.add_sub_cancel] at k
    exact n ⟨k.1.symm, fun e => k.2 (k.1.trans e)⟩
theorem MP.step {j q : Nat} (P : MP E I b w fe se kq κ sl ct j ho) (hb : b ≤ j) (ev : (j - b) % 2 = 0) (hj : j + 1 < sl) (y1 : κ j = κ (j + 1)) (y2 : κ j ≠ 2) (ep : ho j = nI p) (eq : ho (j + 1) = nI q) (hp : p < ct) (hq : q < ct)
    (d0 : ho' j = -1) (d1 : ho' (j + 1) = -1) (d2 : ∀ s, s < sl → s ≠ j → s ≠ j + 1 → ho s = nI q → ho' s = nI p) (d3 : ∀ s, s < sl → s ≠ j → s ≠ j + 1 → ho s ≠ nI q → ho' s = ho s) : MP E I b w fe se kq κ sl ct (j + 2) ho' := by
  obtain ⟨M, m1, m2, m3, m4, m5, m6, m7, m8, m9, m10, m11⟩ := P
  have pI : p < 2147483648 := by omega
  have qI : q < 2147483648 := by omega
  have lj := m5 j hb (Nat.le_refl _) (by omega)
  have lj' := m5 (j + 1) (by omega) (by omega) hj
  have eS : ∀ s, livS ho' sl s ↔ livS ho sl s ∧ s ≠ j ∧ s ≠ j + 1 := fun s => by
    constructor
    · rintro ⟨a, c⟩
      have n1 : s ≠ j := fun k => c (k ▸ d0)
      have n2 : s ≠ j + 1 := fun k => c (k ▸ d1)
      refine ⟨⟨a, fun k => ?_⟩, n1, n2⟩
      rw [d3 s a n1 n2 (fun z => zI_ne qI (z.symm.trans k))] at c
      exact c k
    · rintro ⟨⟨a, c⟩, n1, n2⟩
      refine ⟨a, fun k => ?_⟩
      by_cases z : ho s = nI q
      · rw [d2 s a n1 n2 z] at k; exact zI_ne pI k
      · rw [d3 s a n1 n2 z] at k; exact c k
  have hq' : hm ho (j + 1) = (q : Int) := (hm_nI qI).mpr eq
  have hp' : hm ho j = (p : Int) := (hm_nI pI).mpr ep
  have eq1 : ∀ s, livS ho' sl s → hm ho s = hm ho (j + 1) → hm ho' s = hm ho j := fun s hs k => by
    obtain ⟨a, n1, n2⟩ := (eS s).mp hs
    rw [hq', hm_nI qI] at k
    rw [hp', hm_nI pI]
    exact d2 s a.1 n1 n2 k
  have eq0 : ∀ s, livS ho' sl s → hm ho s ≠ hm ho (j + 1) → hm ho' s = hm ho s := fun s hs k => by
    obtain ⟨a, n1, n2⟩ := (eS s).mp hs
    rw [hq', Ne, hm_nI qI] at k
    unfold hm
    rw [d3 s a.1 n1 n2 k]
  have pj : ptb b j = j + 1 := by unfold ptb; rw [if_pos ev]
  have inv : ∀ s, b ≤ s → b ≤ ptb b s ∧ ptb b (ptb b s) = s := fun s hs => by
    unfold ptb
    by_cases z : (s - b) % 2 = 0
    · rw [if_pos z, if_neg (by omega)]; omega
    · rw [if_neg z, if_pos (by omega)]; omega
  refine ⟨M, bas_merge m1 lj lj' hb (by omega) pj inv eS eq1 eq0, knd_merge m1 lj lj' hb pj eS eq1 eq0 (by rw [m3 j lj, m3 _ lj']; exact y1) (by rw [m3 j lj]; exact y2) m2, fun s hs => ?_, fun s hs => ?_, fun s a c d => (eS s).mpr ⟨m5 s a (by omega) d, by omega, by omega⟩, fun s a c l => ?_, fun s hs => m7 s ((eS s).mp hs).1, m8, m9, m10, m11⟩
  · have l := ((eS s).mp hs).1
    by_cases z : hm ho s = hm ho (j + 1)
    · rw [eq1 s hs z, m3 j lj, y1, ← m3 _ lj', ← z, m3 s l]
    · rw [eq0 s hs z, m3 s l]
  · obtain ⟨a, n1, n2⟩ := (eS s).mp hs
    by_cases z : ho s = nI q
    · exact ⟨p, hp, d2 s a.1 n1 n2 z⟩
    · rw [d3 s a.1 n1 n2 z]; exact m4 s a
  · obtain ⟨a1, n1, n2⟩ := (eS s).mp l
    exact m6 s a (by omega) a1
theorem MP.start (C : CP E I b w fe se ho sl ct) (h2 : Two E I) (hk : ∀ q, q < ct → kq q = kof (Tp ho sl q) (en fe) (en se)) (no : ∀ q, q < ct → ∀ u v, u < v → v < 40 → ¬ CSpl (Tp ho sl q) (en fe) (en se) u v) : MP E I b w fe se kq (fun s => kdf kq (hm ho s)) sl ct b ho := by
  obtain ⟨M, B, K⟩ := C.knd h2 hk no
  obtain ⟨-, c1, c2, c3, c4, c5, c6, c7, c8⟩ := id C
  exact ⟨M, B, K, fun _ _ => rfl, c2, fun s a _ c => c8 s a c, fun s a c => absurd c (by omega), c1, c4, c5, c6, c7⟩
/-- the pieces at the end: a reduced tree -/
def FP (E : Nat → Prop) (I : Nat → Nat → Prop) (b : Nat) (w : Nat → Nat) (fe se ho kq : Nat → Int32) (sl ct : Nat) (M : Nat → Nat → Prop) : Prop :=
  Bas E I (livS ho sl) (hm ho) (en fe) (en se) M (ptb b) b w ∧ Dec E I (livS ho sl) (hm ho) M (ptb b) (kdf kq) ∧ (∀ s, livS ho sl s → ∃ p, p < ct ∧ ho s = nI p) ∧ (∀ s, livS ho sl s → fe s = nI (en fe s) ∧ se s = nI (en se s)) ∧ sl + 2 = b + 2 * ct ∧ 1 ≤ ct ∧ b ≤ 100 ∧ ct ≤ 98
theorem MP.done (P : MP E I b w fe se kq κ sl ct sl ho) : ∃ M, FP E I b w fe se ho kq sl ct M := by
  obtain ⟨M, m1, m2, m3, m4, m5, m6, m7, m8⟩ := P
  refine ⟨M, m1, bas_dec m1 m2 (fun s hs hb k => m6 s hb hs.1 hs ?_), m4, m7, m8⟩
  obtain ⟨c1, -, -⟩ := m1.2.2.2.2.2.2.1 s hs hb
  rw [m3 s hs, m3 _ c1] at k
  exact k
end
section
variable {E : Nat → Prop} {I : Nat → Nat → Prop} {w : Nat → Nat} {fe se ho sa kq : Nat → Int32} {sl ct p q : Nat}
theorem sp_moveAll {post : (Nat → Int32) → Prop} (hsl : sl ≤ 294) (hpq : p ≠ q) (hp : p < 98) (hq : q < 98) (h : ∀ ho', (∀ s, s < sl → ho s = nI q → ho' s = nI p) → (∀ s, s < sl → ho s ≠ nI q → ho' s = ho s) → post ho') : wp_Pieces_moveAll ho (nI sl) (nI q) (nI p) post := by
  unfold wp_Pieces_moveAll
  refine for2 sl (fun k h' => (∀ s, s < k → ho s = nI q → h' s = nI p) ∧ (∀ s, (k ≤ s ∨ ho s ≠ nI q) → h' s = ho s)) (by omega) 0 ho (by omega) ⟨fun s k => absurd k (by omega), fun _ _ => rfl⟩ (fun K k h' hk hJ nx => ⟨fun z => ?_, fun z => ?_⟩)
  · rw [zI_le (by omega) (by omega)] at z
    exact h h' (fun s hs => hJ.1 s (by omega)) (fun s hs n => hJ.2 s (Or.inr n))
  · rw [zI_le (by omega) (by omega)] at z
    have ik : vp_in (nI k) 294 := (in_nI (by omega)).mpr (by omega)
    rw [zI_succ, ix_nI (by omega)]
    have hk0 : h' k = ho k := hJ.2 k (Or.inl (Nat.le_refl _))
    rw [hk0]
    refine ⟨ik, fun n => nx (by omega) h' ⟨fun s a c => ?_, fun s a => ?_⟩, fun n => ⟨ik, fun h2 e2 => nx (by omega) h2 ⟨fun s a c => ?_, fun s a => ?_⟩⟩⟩
    · have : s ≠ k := fun e => n (e ▸ c)
      exact hJ.1 s (by omega) c
    · by_cases y : s = k
      · rw [y]; exact hk0
      · exact hJ.2 s (a.imp (fun a => by omega) id)
    · by_cases y : s = k
      · rw [e2, y, upd_at]
      · rw [e2, upd_ne y]; exact hJ.1 s (by omega) c
    · by_cases y : s = k
      · subst y
        rcases a with a | a
        · omega
        · exact absurd n a
      · rw [e2, upd_ne y]; exact hJ.2 s (a.imp (fun a => by omega) id)
theorem sp_uniteRings {post : (Nat → Int32) → Prop} (h2 : Two E I) (B : BP E I w fe se ho sa kq sl ct ct ct) (h : ∀ ho' M, FP E I 100 w fe se ho' kq sl ct M → post ho') : wp_Pieces_uniteRings ho kq (nI sl) post := by
  have C := B.1
  have l := C.len
  have c98 := C.ct98
  have c1 := C.ct1
  have P0 := MP.start C h2 (kq := kq) (fun q hq => (B.2.2.2.1 q hq hq).1) (fun q hq => (B.2.2.2.1 q hq hq).2)
  -- the side that came off first lies in no bond
  have odd : ∀ j, 100 ≤ j → j % 2 = 1 → j < sl → kdf kq (hm ho j) ≠ 0 := fun j hj jo jl k => by
    have lj := C.2.2.2.2.2.2.2.2 j hj jl
    obtain ⟨q, hq, e⟩ := C.2.2.1 j lj
    obtain ⟨-, i2⟩ := B.2.1 j q hj jo jl (by omega) e
    have kk := (B.2.2.2.1 q hq hq).1
    rw [kdf_nI (by omega) e, kk] at k
    have c2 : cnt 40 (Pts (Tp ho sl q) (en fe) (en se)) = 2 := Classical.byContradiction fun z => by
      unfold kof at k
      rw [if_neg z] at k
      by_cases y : cnt 40 (Pts (Tp ho sl q) (en fe) (en se)) = 3
      · rw [if_pos y] at k; exact absurd k (by decide)
      · rw [if_neg y] at k; exact absurd k (by decide)
    obtain ⟨u, v, uv, hv, -, -, all⟩ := cnt_two c2
    have tj : Tp ho sl q j := ⟨jl, e⟩
    obtain ⟨t, -, ht, -, nt, -, -⟩ := C.three (by omega) tj
    have lt := C.Tlv (by omega) ht
    have d1 := C.e40 lj
    have d2 := C.e40 lt
    have a1 := all _ d1.1 ⟨j, tj, Or.inl rfl⟩
    have a2 := all _ d1.2.1 ⟨j, tj, Or.inr rfl⟩
    have a3 := all _ d2.1 ⟨t, ht, Or.inl rfl⟩
    have a4 := all _ d2.2.1 ⟨t, ht, Or.inr rfl⟩
    exact nt (i2 t ht (by omega))
  generalize hκ : (fun s => kdf kq (hm ho s)) = κ at P0
  have hκ' : ∀ s, κ s = kdf kq (hm ho s) := fun s => by rw [← hκ]
  unfold wp_Pieces_uniteRings
  refine sL2_of (fun i ho => ∃ k, i = nI (100 + 2 * k) ∧ 100 + 2 * k ≤ sl ∧ MP E I 100 w fe se kq κ sl ct (100 + 2 * k) ho) (fun i _ => 400 - ix i) ?_ _ _ ⟨0, rfl, by omega, P0⟩
  rintro K _ ho1 ⟨k, rfl, hk, P⟩ nx
  refine ⟨fun z => ?_, fun z => ?_⟩
  · rw [zI_le (by omega) (by omega)] at z
    have : 100 + 2 * k = sl := by omega
    rw [this] at P
    obtain ⟨M, F⟩ := P.done
    exact h _ M F
  · rw [zI_le (by omega) (by omega)] at z
    obtain ⟨M, m1, m2, m3, m4, m5, m6, m7, -⟩ := id P
    have l0 := m5 (100 + 2 * k) (by omega) (Nat.le_refl _) (by omega)
    have l1 := m5 (100 + 2 * k + 1) (by omega) (by omega) (by omega)
    obtain ⟨p, hp, ep⟩ := m4 _ l0
    obtain ⟨q, hq, eq⟩ := m4 _ l1
    have i0 : vp_in (nI (100 + 2 * k)) 294 := (in_nI (by omega)).mpr (by omega)
    have i1 : vp_in (nI (100 + 2 * k + 1)) 294 := (in_nI (by omega)).mpr (by omega)
    have ip : vp_in (nI p) 98 := (in_nI (by omega)).mpr (by omega)
    have iq : vp_in (nI q) 98 := (in_nI (by omega)).mpr (by omega)
    rw [zI_succ, zI_two, ix_nI (by omega), ix_nI (by omega), ep, eq, ix_nI (by omega), ix_nI (by omega)]
    have kp := m3 _ l0
    have kq' := m3 _ l1
    rw [kdf_nI (by omega) ep] at kp
    rw [kdf_nI (by omega) eq] at kq'
    have one : ∀ x : Int32, x = 1 ↔ x.toInt = 1 := fun x => by rw [← Int32.toInt_inj]; rfl
    have go : MP E I 100 w fe se kq κ sl ct (100 + 2 * k + 2) ho1 → K (nI (100 + 2 * k + 2)) ho1 := fun P => nx _ _ ⟨k + 1, rfl, by omega, P⟩ (by rw [ix_nI (by omega), ix_nI (by omega)]; omega)
    have ng : ¬ (κ (100 + 2 * k) = 1 ∧ κ (100 + 2 * k + 1) = 1) → MP E I 100 w fe se kq κ sl ct (100 + 2 * k + 2) ho1 := fun n => P.keep (by omega) (by omega) (fun y => by
      have o := odd (100 + 2 * k + 1) (by omega) (by omega) (by omega)
      rw [← hκ'] at o
      have k3 : κ (100 + 2 * k) = 0 ∨ κ (100 + 2 * k) = 1 ∨ κ (100 + 2 * k) = 2 := by
        rw [← m3 _ l0]
        rcases m2 _ l0 with ⟨a, -⟩ | ⟨a, -⟩ | ⟨a, -⟩ <;> omega
      omega)
    refine ⟨i0, i1, ip, fun a => go (ng fun y => a ((one _).mpr (kp.trans y.1))), fun a => ⟨iq, fun x6 e6 => ⟨fun c => go (ng fun y => c (e6.trans ((one _).mpr (kq'.trans y.2)))), fun c => ⟨i0, fun h8 e8 => ⟨i1, fun h10 e10 => ?_⟩⟩⟩⟩⟩
    have b1 : κ (100 + 2 * k) = 1 := by rw [← kp]; exact (one _).mp a
    have b2 : κ (100 + 2 * k + 1) = 1 := by rw [← kq']; exact (one _).mp (e6.symm.trans c)
    have pq : p ≠ q := fun e => by
      obtain ⟨-, c2, -⟩ := m1.2.2.2.2.2.2.1 _ l0 (by omega)
      rw [ptb, if_pos (by omega), (hm_nI (by omega)).mpr ep, (hm_nI (by omega)).mpr eq] at c2
      omega
    refine sp_moveAll (by omega) pq (by omega) (by omega) fun ho' c1 c2 => ?_
    refine nx _ _ ⟨k + 1, rfl, by omega, ?_⟩ (by rw [ix_nI (by omega), ix_nI (by omega)]; omega)
    have v0 : h10 (100 + 2 * k) = -1 := by rw [e10, upd_ne (by omega), e8, upd_at]
    have v1 : h10 (100 + 2 * k + 1) = -1 := by rw [e10, upd_at]
    have v2 : ∀ s, s ≠ 100 + 2 * k → s ≠ 100 + 2 * k + 1 → h10 s = ho1 s := fun s a b => by rw [e10, upd_ne b, e8, upd_ne a]
    have nq : (-1 : Int32) ≠ nI q := fun e => zI_ne (by omega) e.symm
    refine P.step (j := 100 + 2 * k) (p := p) (q := q) (by omega) (by omega) (by omega) (b1.trans b2.symm) (by omega) ep eq hp hq ?_ ?_ (fun s a n1 n2 e => c1 s a (by rw [v2 s n1 n2]; exact e)) (fun s a n1 n2 e => by rw [c2 s a (by rw [v2 s n1 n2]; exact e), v2 s n1 n2])
    · rw [c2 _ (by omega) (by rw [v0]; exact nq), v0]
    · rw [c2 _ (by omega) (by rw [v1]; exact nq), v1]
end
