/-! PURE PART XVI: the reference's splitting -/
section
variable {E : Nat → Prop} {I : Nat → Nat → Prop} {b : Nat} {w : Nat → Nat} {one two what piece : Nat → Int32} {sl ct p u v : Nat}
theorem CP.sl294 (C : CP E I b w one two piece sl ct) : sl ≤ 294 := by
  have := C.len
  have := C.ct98
  have := C.b100
  omega
theorem CP.itm (C : CP E I b w one two piece sl ct) (hp : p < 2147483648) {i : Nat} (hi : i < sl) (e : piece i = nI p) : i < 320 ∧ one i = nI (en one i) ∧ two i = nI (en two i) ∧ en one i < 40 ∧ en two i < 40 ∧ en one i ≠ en two i := by
  have l := C.Tlv hp ⟨hi, e⟩
  have a := C.2.1 i l
  have d := C.e40 l
  have := C.sl294
  exact ⟨by omega, a.1, a.2, d.1, d.2.1, d.2.2⟩
theorem sp_sizeOf {post : Int32 → Prop} (hsl : sl ≤ 320) (h : post (nI (cnt sl (Tp piece sl p)))) : wp_Model_sizeOf (nI sl) piece (nI p) post := by
  unfold wp_Model_sizeOf
  refine for2b sl (fun k a => a = nI (cnt k (Tp piece sl p))) (by omega) 0 0 (by omega) rfl (fun K k a hk hJ nx => ⟨fun q => ?_, fun q => ?_⟩)
  · rw [zI_le (by omega) (by omega)] at q
    have : k = sl := by omega
    subst this
    rw [hJ]; exact h
  · rw [zI_le (by omega) (by omega)] at q
    rw [ix_nI (by omega), zI_succ]
    refine ⟨(in_nI (by omega)).mpr (by omega), fun z => nx (by omega) _ ?_, fun z => nx (by omega) _ ?_⟩
    · rw [cnt_succ, pr_f (fun y => z y.2), hJ]; rfl
    · rw [cnt_succ, pr_t ⟨by omega, z⟩, hJ, zI_succ]
theorem sp_hasPoint {x : Nat} {post : Int32 → Prop} (C : CP E I b w one two piece sl ct) (hp : p < 2147483648) (hx : x < 2147483648) (h1 : Pts (Tp piece sl p) (en one) (en two) x → post 1) (h0 : ¬ Pts (Tp piece sl p) (en one) (en two) x → post 0) : wp_Model_hasPoint (nI sl) one two piece (nI p) (nI x) post := by
  have l := C.sl294
  unfold wp_Model_hasPoint
  refine for1 sl (fun k => ∀ s, s < k → piece s = nI p → ¬ (x = en one s ∨ x = en two s)) (by omega) 0 (by omega) (fun s k => absurd k (by omega)) (fun K k hk hJ nx => ⟨fun q => ?_, fun q => ?_⟩)
  · rw [zI_le (by omega) (by omega)] at q
    exact h0 fun ⟨s, hs, k⟩ => hJ s (by have := hs.1; omega) hs.2 k
  · rw [zI_le (by omega) (by omega)] at q
    rw [ix_nI (by omega), zI_succ]
    refine ⟨(in_nI (by omega)).mpr (by omega), fun z => nx (by omega) () fun s hs e => ?_, fun z => ?_⟩
    · have : s ≠ k := fun y => z (y ▸ e)
      exact hJ s (by omega) e
    · obtain ⟨i1, i2, i3, i4, i5, i6⟩ := C.itm hp (by omega) z
      refine sp_touches i1 i2 i3 i4 i5 hx (fun y => ⟨fun y => absurd y (by decide), fun _ => h1 ⟨k, ⟨by omega, z⟩, by omega⟩⟩) (fun y => ⟨fun _ => nx (by omega) () fun s hs e => ?_, fun y => absurd rfl y⟩)
      by_cases t : s = k
      · subst t; omega
      · exact hJ s (by omega) e
theorem sp_pointsOf {post : Int32 → Prop} (C : CP E I b w one two piece sl ct) (hp : p < 2147483648) (h : post (nI (cnt 40 (Pts (Tp piece sl p) (en one) (en two))))) : wp_Model_pointsOf (nI sl) one two piece (nI p) post := by
  unfold wp_Model_pointsOf
  refine for2b 40 (fun k a => a = nI (cnt k (Pts (Tp piece sl p) (en one) (en two)))) (by omega) 0 0 (by omega) rfl (fun K k a hk hJ nx => ⟨fun q => ?_, fun q => ?_⟩)
  · rw [L40, zI_le (by omega) (by omega)] at q
    have : k = 40 := by omega
    subst this
    rw [hJ]; exact h
  · rw [L40, zI_le (by omega) (by omega)] at q
    rw [zI_succ]
    refine sp_hasPoint C hp (by omega) (fun z => ⟨fun y => absurd y (by decide), fun _ => nx (by omega) _ ?_⟩) (fun z => ⟨fun _ => nx (by omega) _ ?_, fun y => absurd rfl y⟩)
    · rw [cnt_succ, pr_t z, hJ, zI_succ]
    · rw [cnt_succ, pr_f z, hJ]; rfl
theorem sp_look {gr many : Nat → Int32} {post : Int32 → (Nat → Int32) → (Nat → Int32) → Prop} (C : CP E I b w one two piece sl ct) (hp : p < 2147483648) (hu : u < 40) (hv : v < 40)
    (h : ∀ gr many, Lb (Rl (Tp piece sl p) (en one) (en two) u v) gr → (∀ g, g < 40 → many g = nI (cnt sl (fun s => Tp piece sl p s ∧ ¬ btw (en one) (en two) u v s ∧ gr (oe (en one) (en two) u v s) = nI g))) → post (nI (cnt sl (fun s => Tp piece sl p s ∧ btw (en one) (en two) u v s))) gr many) :
    wp_Model_look (nI sl) one two piece gr many (nI p) (nI u) (nI v) post := by
  have l := C.sl294
  unfold wp_Model_look
  refine for3 40 (fun k gr many => (∀ x, x < k → gr x = nI x) ∧ ∀ x, x < k → many x = nI 0) (by omega) 0 gr many (by omega) ⟨fun x k => absurd k (by omega), fun x k => absurd k (by omega)⟩ (fun K k gr many hk hJ nx => ⟨fun q => ?_, fun q => ?_⟩)
  rotate_left
  · rw [L40, zI_le (by omega) (by omega)] at q
    have ik : vp_in (nI k) 40 := (in_nI (by omega)).mpr (by omega)
    rw [ix_nI (by omega), zI_succ]
    refine ⟨ik, fun g' eg => ⟨ik, fun m' em => nx (by omega) _ _ ⟨fun x hx => ?_, fun x hx => ?_⟩⟩⟩
    · by_cases z : x = k
      · rw [eg, z, upd_at]
      · rw [eg, upd_ne z]; exact hJ.1 x (by omega)
    · by_cases z : x = k
      · rw [em, z, upd_at]; rfl
      · rw [em, upd_ne z]; exact hJ.2 x (by omega)
  rw [L40, zI_le (by omega) (by omega)] at q
  have : k = 40 := by omega
  subst this
  refine for2 sl (fun k gr => Lb (Rl (fun s => s < k ∧ piece s = nI p) (en one) (en two) u v) gr) (by omega) 0 gr (by omega) (Lb_id (fun x hx => hJ.1 x hx) (fun x y ⟨s, hs, _⟩ => absurd hs.1 (by omega))) (fun K2 k gr hk L nx2 => ⟨fun q2 => ?_, fun q2 => ?_⟩)
  rotate_left
  · rw [zI_le (by omega) (by omega)] at q2
    rw [ix_nI (by omega), zI_succ]
    have skip : ¬ (piece k = nI p ∧ ¬ (en one k = u ∨ en two k = u) ∧ ¬ (en one k = v ∨ en two k = v)) → K2 (nI (k + 1)) gr := fun z => nx2 (by omega) _ (Lb_congr L fun x y => ⟨fun ⟨s, hs, a⟩ => ⟨s, ⟨by omega, hs.2⟩, a⟩, fun ⟨s, hs, a⟩ => ⟨s, ⟨by
      have : s ≠ k := fun e => z (e ▸ ⟨hs.2, a.1, a.2.1⟩)
      omega, hs.2⟩, a⟩⟩)
    refine ⟨(in_nI (by omega)).mpr (by omega), fun z => skip fun y => z y.1, fun z => ?_⟩
    obtain ⟨i1, i2, i3, i4, i5, i6⟩ := C.itm hp (by omega) z
    refine sp_touches i1 i2 i3 i4 i5 (by omega) (fun y => ⟨fun _ => skip fun a => a.2.1 y, fun y => absurd y (by decide)⟩) (fun y => ⟨fun y => absurd rfl y, fun _ => ?_⟩)
    refine sp_touches i1 i2 i3 i4 i5 (by omega) (fun y' => ⟨fun _ => skip fun a => a.2.2 y', fun y => absurd y (by decide)⟩) (fun y' => ⟨fun y => absurd rfl y, fun _ => ⟨(in_nI (by omega)).mpr (by omega), (in_nI (by omega)).mpr (by omega), ?_⟩⟩)
    rw [i2, i3]
    refine sp_same L i4 i5 fun gr' L' => nx2 (by omega) _ (Lb_congr L' fun a c => ⟨?_, ?_⟩)
    · rintro (⟨s, hs, d⟩ | ⟨rfl, rfl⟩)
      · exact ⟨s, ⟨by omega, hs.2⟩, d⟩
      · exact ⟨k, ⟨by omega, z⟩, y, y', rfl, rfl⟩
    · rintro ⟨s, hs, d⟩
      by_cases e : s = k
      · subst e; exact Or.inr ⟨d.2.2.1, d.2.2.2⟩
      · exact Or.inl ⟨s, ⟨by omega, hs.2⟩, d⟩
  rw [zI_le (by omega) (by omega)] at q2
  have : k = sl := by omega
  subst this
  refine for3b k (fun n a many => a = nI (cnt n (fun s => Tp piece k p s ∧ btw (en one) (en two) u v s)) ∧ ∀ g, g < 40 → many g = nI (cnt n (fun s => Tp piece k p s ∧ ¬ btw (en one) (en two) u v s ∧ gr (oe (en one) (en two) u v s) = nI g))) (by omega) 0 0 many (by omega) ⟨rfl, fun g hg => hJ.2 g hg⟩ (fun K3 n a many hn hJ3 nx3 => ⟨fun q3 => ?_, fun q3 => ?_⟩)
  · rw [zI_le (by omega) (by omega)] at q3
    have : n = k := by omega
    subst this
    rw [hJ3.1]
    exact h gr many L hJ3.2
  · rw [zI_le (by omega) (by omega)] at q3
    rw [ix_nI (by omega), zI_succ]
    refine ⟨(in_nI (by omega)).mpr (by omega), fun z => nx3 (by omega) _ _ ⟨?_, fun g hg => ?_⟩, fun z => ?_⟩
    · rw [cnt_succ, pr_f (fun y => z y.1.2), hJ3.1]; rfl
    · rw [cnt_succ, pr_f (fun y => z y.1.2), hJ3.2 g hg]; rfl
    · obtain ⟨i1, i2, i3, i4, i5, i6⟩ := C.itm hp (by omega) z
      refine sp_groupOf i1 i2 i3 i4 i5 (by omega) (by omega) (fun y => ?_) (fun y => ?_)
      · refine ⟨fun t => absurd t (by decide), fun _ => ⟨fun _ => nx3 (by omega) _ _ ⟨?_, fun g hg => ?_⟩, fun t => absurd (by decide) t⟩⟩
        · rw [cnt_succ, pr_t ⟨⟨by omega, z⟩, y⟩, hJ3.1, zI_succ]
        · rw [cnt_succ, pr_f (fun t => t.2.1 y), hJ3.2 g hg]; rfl
      · have o40 : oe (en one) (en two) u v n < 40 := by
          rcases (oe_end i6 y).1 with t | t <;> rw [t] <;> assumption
        obtain ⟨g0, hg0, e0⟩ := L.1 _ o40
        rw [e0]
        have ig : vp_in (nI g0) 40 := (in_nI (by omega)).mpr hg0
        refine ⟨fun _ => ⟨fun t => absurd t (zI_nn (by omega)), fun _ => ⟨ig, ig, fun m' em => nx3 (by omega) _ _ ⟨?_, fun g hg => ?_⟩⟩⟩, fun t => absurd (by rw [L0, zI_le (by omega) (by omega)]; omega) t⟩
        · rw [cnt_succ, pr_f (fun t => y t.2), hJ3.1]; rfl
        · rw [ix_nI (by omega)] at em
          by_cases t : g = g0
          · rw [em, t, upd_at, cnt_succ, pr_t ⟨⟨by omega, z⟩, y, e0⟩, hJ3.2 g0 hg0, zI_succ]
          · rw [em, upd_ne t, cnt_succ, pr_f (fun k => t (by have := k.2.2.symm.trans e0; rw [zI_eq (by omega) (by omega)] at this; exact this)), hJ3.2 g hg]; rfl
/-- which part to split off at u, v: a group, or two slots between them, or none -/
theorem sp_partOf {gr many : Nat → Int32} {post : Int32 → (Nat → Int32) → (Nat → Int32) → Prop} (C : CP E I b w one two piece sl ct) (hp : p < ct) (hu : u < 40) (hv : v < 40) (huv : u ≠ v)
    (h1 : ∀ g gr many, g < 40 → Lb (Rl (Tp piece sl p) (en one) (en two) u v) gr → 2 ≤ cnt sl (fun s => Tp piece sl p s ∧ ¬ btw (en one) (en two) u v s ∧ gr (oe (en one) (en two) u v s) = nI g) → 2 ≤ cnt sl (fun s => Tp piece sl p s ∧ ¬ (¬ btw (en one) (en two) u v s ∧ gr (oe (en one) (en two) u v s) = nI g)) → post (nI g) gr many)
    (h2 : ∀ gr many, 2 ≤ cnt sl (fun s => Tp piece sl p s ∧ btw (en one) (en two) u v s) → 4 ≤ cnt sl (Tp piece sl p) → post (nI 40) gr many)
    (h3 : ∀ gr many, ¬ Spl (Tp piece sl p) (en one) (en two) u v → post (-1) gr many) :
    wp_Model_partOf (nI sl) one two piece gr many (nI p) (nI u) (nI v) post := by
  have l := C.sl294
  have c98 := C.ct98
  have pI : p < 2147483648 := by omega
  unfold wp_Model_partOf
  refine sp_look C pI hu hv fun gr many L hm => sp_sizeOf (by omega) ?_
  have all3 : 3 ≤ cnt sl (Tp piece sl p) := by
    obtain ⟨s, hs⟩ := C.2.2.2.1 p hp
    obtain ⟨t, r, ht, hr, k1, k2, k3⟩ := C.three pI hs
    exact cnt_ge3 hs.1 ht.1 hr.1 (fun k => k1 k.symm) (fun k => k2 k.symm) k3 hs ht hr
  have al := cnt_le sl (Tp piece sl p)
  have ab := cnt_le sl (fun s => Tp piece sl p s ∧ btw (en one) (en two) u v s)
  refine for1 40 (fun k => ∀ g, g < k → 2 ≤ cnt sl (fun s => Tp piece sl p s ∧ ¬ btw (en one) (en two) u v s ∧ gr (oe (en one) (en two) u v s) = nI g) → cnt sl (Tp piece sl p) ≤ cnt sl (fun s => Tp piece sl p s ∧ ¬ btw (en one) (en two) u v s ∧ gr (oe (en one) (en two) u v s) = nI g) + 1) (by omega) 0 (by omega) (fun g k => absurd k (by omega)) (fun K k hk hJ nx => ⟨fun q => ?_, fun q => ?_⟩)
  · rw [L40, zI_le (by omega) (by omega)] at q
    rw [L1, L2, zI_sub (by omega), zI_le (by omega) (by omega), zI_le (by omega) (by omega)]
    have fin : (4 ≤ cnt sl (Tp piece sl p) → cnt sl (fun s => Tp piece sl p s ∧ btw (en one) (en two) u v s) ≤ 1) → ¬ Spl (Tp piece sl p) (en one) (en two) u v := fun z =>
      no_part huv (N := sl) (fun s hs => hs.1) L (fun s hs => C.e40 (C.Tlv pI hs)) (fun s y hs k => C.two pI hs k) (fun g hg => hJ g (by omega)) z
    exact ⟨fun z => h3 _ _ (fin fun _ => z), fun z => ⟨fun y => h3 _ _ (fin fun t => by omega), fun y => h2 _ _ (by omega) (by omega)⟩⟩
  · rw [L40, zI_le (by omega) (by omega)] at q
    have ik : vp_in (nI k) 40 := (in_nI (by omega)).mpr (by omega)
    have sp := cnt_split (P := Tp piece sl p) (Q := fun s => ¬ btw (en one) (en two) u v s ∧ gr (oe (en one) (en two) u v s) = nI k) sl
    have hmk := hm k (by omega)
    rw [ix_nI (by omega), zI_succ, hmk, L1, zI_sub (by omega), zI_le (by omega) (by omega), zI_le (by omega) (by omega)]
    refine ⟨ik, fun z => nx (by omega) () fun g hg y => ?_, fun z => ⟨ik, fun t => nx (by omega) () fun g hg y => ?_, fun t => h1 k gr many (by omega) L (by omega) (by omega)⟩⟩
    · by_cases e : g = k
      · subst e; omega
      · exact hJ g (by omega) y
    · by_cases e : g = k
      · subst e; omega
      · exact hJ g (by omega) y
/-- the reference's items: the edges first, then each joint's two sides -/
def RP (E : Nat → Prop) (I : Nat → Nat → Prop) (b : Nat) (w : Nat → Nat) (one two what piece : Nat → Int32) (sl ct : Nat) : Prop :=
  CP E I b w one two piece sl ct ∧ (∀ s, s < b → what s = nI (w s) ∧ w s < 100) ∧ ∀ k, k + 1 < ct → what (b + 2 * k) = (-1) - nI k ∧ what (b + 2 * k + 1) = (-1) - nI k
theorem sp_move {gr : Nat → Int32} {part : Int32} {Q : Nat → Prop} {post : Int32 → (Nat → Int32) → (Nat → Int32) → (Nat → Int32) → (Nat → Int32) → Int32 → Int32 → Prop} (C : CP E I b w one two piece sl ct) (hp : p < ct) (hc : ct ≤ 97) (jt : Nat)
    (dec : ∀ k, k < sl → piece k = nI p → ∀ J : Int32 → Prop, (Q k → J 1) → (¬ Q k → J 0) → (¬ part = 40 → wp_Model_groupOf one two gr (nI k) (nI u) (nI v) (fun r => (¬ r = part → J 0) ∧ (r = part → J 1))) ∧ (part = 40 → (2 ≤ nI (cnt k (fun s => Tp piece sl p s ∧ Q s)) → J 0) ∧ (¬ 2 ≤ nI (cnt k (fun s => Tp piece sl p s ∧ Q s)) → wp_Model_isBetween one two (nI k) (nI u) (nI v) (fun r => (r = 0 → J 0) ∧ (¬ r = 0 → J 1)))))
    (h : ∀ one' two' what' piece', SpA one two piece sl ct p u v Q one' two' piece' → (∀ s, s < sl → what' s = what s) → what' sl = (-1) - nI jt → what' (sl + 1) = (-1) - nI jt → post (nI (sl + 2)) one' two' what' piece' (nI (ct + 1)) (nI (jt + 1))) :
    wp_Model_move (nI sl) one two what piece (nI ct) (nI jt) gr (nI p) (nI u) (nI v) part post := by
  have l := C.sl294
  have ln := C.len
  have b100 := C.b100
  unfold wp_Model_move
  refine for3b sl (fun k a pc => a = nI (cnt k (fun s => Tp piece sl p s ∧ Q s)) ∧ (∀ s, s < k → piece s = nI p → Q s → pc s = nI ct) ∧ (∀ s, (k ≤ s ∨ ¬ (piece s = nI p ∧ Q s)) → pc s = piece s)) (by omega) 0 0 piece (by omega) ⟨rfl, fun s k => absurd k (by omega), fun _ _ => rfl⟩ (fun K k a pc hk hJ nx => ⟨fun q => ?_, fun q => ?_⟩)
  · rw [zI_le (by omega) (by omega)] at q
    have : k = sl := by omega
    subst this
    unfold wp_Model_add
    have i1 : vp_in (nI k) 320 := (in_nI (by omega)).mpr (by omega)
    have i2 : vp_in (nI (k + 1)) 320 := (in_nI (by omega)).mpr (by omega)
    simp only [zI_succ]
    rw [ix_nI (by omega), ix_nI (by omega)]
    refine ⟨i1, fun f1 ef1 => ⟨i1, fun s1 es1 => ⟨i1, fun w1 ew1 => ⟨i1, fun h1 eh1 => ⟨i2, fun f2 ef2 => ⟨i2, fun s2 es2 => ⟨i2, fun w2 ew2 => ⟨i2, fun h2 eh2 => ?_⟩⟩⟩⟩⟩⟩⟩⟩
    refine h f2 s2 w2 h2 ⟨fun s a b c => ?_, fun s a b => ?_, ?_, ?_, fun s a => ?_, fun s a => ?_, ?_, ?_, ?_, ?_⟩ (fun s a => ?_) ?_ ?_
    · rw [eh2, upd_ne (by omega), eh1, upd_ne (by omega)]; exact hJ.2.1 s a b c
    · rw [eh2, upd_ne (by omega), eh1, upd_ne (by omega)]; exact hJ.2.2 s (Or.inr b)
    · rw [eh2, upd_ne (by omega), eh1, upd_at]
    · rw [eh2, upd_at]
    · rw [ef2, upd_ne (by omega), ef1, upd_ne (by omega)]
    · rw [es2, upd_ne (by omega), es1, upd_ne (by omega)]
    · rw [ef2, upd_ne (by omega), ef1, upd_at]
    · rw [ef2, upd_at]
    · rw [es2, upd_ne (by omega), es1, upd_at]
    · rw [es2, upd_at]
    · rw [ew2, upd_ne (by omega), ew1, upd_ne (by omega)]
    · rw [ew2, upd_ne (by omega), ew1, upd_at]
    · rw [ew2, upd_at]
  · rw [zI_le (by omega) (by omega)] at q
    have ik : vp_in (nI k) 320 := (in_nI (by omega)).mpr (by omega)
    rw [ix_nI (by omega), zI_succ]
    have pk : pc k = piece k := hJ.2.2 k (Or.inl (Nat.le_refl _))
    rw [pk, hJ.1]
    have keep : ¬ (piece k = nI p ∧ Q k) → K (nI (cnt k (fun s => Tp piece sl p s ∧ Q s))) (nI (k + 1)) pc := fun z => nx (by omega) _ _ ⟨by rw [cnt_succ, pr_f (fun y => z ⟨y.1.2, y.2⟩)]; rfl, fun s a c d => by
      have : s ≠ k := fun e => z (e ▸ ⟨c, d⟩)
      exact hJ.2.1 s (by omega) c d, fun s a => by
      by_cases e : s = k
      · rw [e]; exact pk
      · exact hJ.2.2 s (a.imp (fun a => by omega) id)⟩
    have mv : piece k = nI p → Q k → ∀ pc' : Nat → Int32, pc' = upd pc k (nI ct) → K (nI (cnt k (fun s => Tp piece sl p s ∧ Q s)) + 1) (nI (k + 1)) pc' := fun z y pc' e => nx (by omega) _ _ ⟨by rw [cnt_succ, pr_t ⟨⟨by omega, z⟩, y⟩, zI_succ], fun s a c d => by
      by_cases t : s = k
      · rw [e, t, upd_at]
      · rw [e, upd_ne t]; exact hJ.2.1 s (by omega) c d, fun s a => by
      by_cases t : s = k
      · subst t
        rcases a with a | a
        · omega
        · exact absurd ⟨z, y⟩ a
      · rw [e, upd_ne t]; exact hJ.2.2 s (a.imp (fun a => by omega) id)⟩
    refine ⟨ik, fun z => ⟨fun _ => keep fun y => z y.1, fun y => absurd rfl y⟩, fun z => ?_⟩
    exact dec k (by omega) z (fun z_17 => (z_17 = 0 → K (nI (cnt k (fun s => Tp piece sl p s ∧ Q s))) (nI (k + 1)) pc) ∧ (¬ z_17 = 0 → vp_in (nI k) 320 ∧ ∀ piece_22 : Nat → Int32, piece_22 = upd pc k (nI ct) → K (nI (cnt k (fun s => Tp piece sl p s ∧ Q s)) + 1) (nI (k + 1)) piece_22)) (fun y => ⟨fun t => absurd t (by decide), fun _ => ⟨ik, fun pc' e => mv z y pc' e⟩⟩) (fun y => ⟨fun _ => keep fun t => y t.2, fun t => absurd rfl t⟩)
theorem sp_split {gr many : Nat → Int32} {post : Int32 → Int32 → (Nat → Int32) → (Nat → Int32) → (Nat → Int32) → (Nat → Int32) → Int32 → Int32 → (Nat → Int32) → (Nat → Int32) → Prop} (g : Gr E I) (h2 : Two E I) (R : RP E I b w one two what piece sl ct) (hp : p < ct)
    (h1 : ∀ one' two' what' piece' gr many, ct ≤ 97 → RP E I b w one' two' what' piece' (sl + 2) (ct + 1) → (∀ q, q < ct → q ≠ p → ∀ a c, Spl (Tp piece' (sl + 2) q) (en one') (en two') a c → Spl (Tp piece sl q) (en one) (en two) a c) → post 1 (nI (sl + 2)) one' two' what' piece' (nI (ct + 1)) (nI (ct - 1 + 1)) gr many)
    (h0 : ∀ gr many, (∀ a c, a < c → c < 40 → ¬ Spl (Tp piece sl p) (en one) (en two) a c) → post 0 (nI sl) one two what piece (nI ct) (nI (ct - 1)) gr many) :
    wp_Model_split (nI sl) one two what piece (nI ct) (nI (ct - 1)) gr many (nI p) post := by
  have C := R.1
  have l := C.sl294
  have c98 := C.ct98
  have c1 := C.ct1
  have ln := C.len
  have b100 := C.b100
  have pI : p < 2147483648 := by omega
  unfold wp_Model_split
  refine for10 40 (fun k its o t wh pc ps js gr many => its = nI sl ∧ one = o ∧ two = t ∧ what = wh ∧ piece = pc ∧ ps = nI ct ∧ js = nI (ct - 1) ∧ ∀ a c, a < c → c < 40 → a < k → ¬ Spl (Tp piece sl p) (en one) (en two) a c) (by omega) 0 (nI sl) one two what piece (nI ct) (nI (ct - 1)) gr many (by omega) ⟨rfl, rfl, rfl, rfl, rfl, rfl, rfl, fun a c _ _ k => absurd k (by omega)⟩ ?_
  rintro K u _ _ _ _ _ _ _ gr many hu ⟨rfl, rfl, rfl, rfl, rfl, rfl, rfl, hJ⟩ nx
  refine ⟨fun q => ?_, fun q => ?_⟩
  · rw [L40, zI_le (by omega) (by omega)] at q
    exact h0 gr many fun a c ac hc => hJ a c ac hc (by omega)
  · rw [L40, zI_le (by omega) (by omega)] at q
    rw [zI_succ]
    refine for10 40 (fun k its o t wh pc ps js gr many => its = nI sl ∧ one = o ∧ two = t ∧ what = wh ∧ piece = pc ∧ ps = nI ct ∧ js = nI (ct - 1) ∧ u + 1 ≤ k ∧ ∀ c, u < c → c < k → ¬ Spl (Tp piece sl p) (en one) (en two) u c) (by omega) (u + 1) (nI sl) one two what piece (nI ct) (nI (ct - 1)) gr many (by omega) ⟨rfl, rfl, rfl, rfl, rfl, rfl, rfl, by omega, fun c _ k => absurd k (by omega)⟩ ?_
    rintro K2 v _ _ _ _ _ _ _ gr many hv ⟨rfl, rfl, rfl, rfl, rfl, rfl, rfl, uv, hJ2⟩ nx2
    have out : (∀ c, v ≤ c → c < 40 → ¬ Spl (Tp piece sl p) (en one) (en two) u c) → K (nI u + 1) (nI sl) one two what piece (nI ct) (nI (ct - 1)) gr many := fun z => by
      rw [zI_succ]
      refine nx (by omega) _ _ _ _ _ _ _ _ _ ⟨rfl, rfl, rfl, rfl, rfl, rfl, rfl, fun a c ac hc k => ?_⟩
      by_cases e : a = u
      · subst e
        by_cases y : v ≤ c
        · exact z c y hc
        · exact hJ2 c ac (by omega)
      · exact hJ a c ac hc (by omega)
    rw [← zI_succ u]
    refine ⟨fun q2 => ?_, fun q2 => ?_⟩
    · rw [L40, zI_le (by omega) (by omega)] at q2
      exact out fun c a k => absurd k (by omega)
    · rw [L40, zI_le (by omega) (by omega)] at q2
      rw [zI_succ v]
      have go : ∀ gr many, ¬ Spl (Tp piece sl p) (en one) (en two) u v → K2 (nI (v + 1)) (nI sl) one two what piece (nI ct) (nI (ct - 1)) gr many := fun gr many z => nx2 (by omega) _ _ _ _ _ _ _ _ _ ⟨rfl, rfl, rfl, rfl, rfl, rfl, rfl, by omega, fun c uc hc => by
        by_cases e : c = v
        · rw [e]; exact z
        · exact hJ2 c uc (by omega)⟩
      refine sp_hasPoint C pI (by omega) (fun z => ⟨fun y => absurd y (by decide), fun _ => ?_⟩) (fun z => ⟨fun _ => out fun c _ hc y => z (C.pts g h2 pI y (Or.inl rfl)), fun y => absurd rfl y⟩)
      refine sp_hasPoint C pI (by omega) (fun z' => ⟨fun y => absurd y (by decide), fun _ => ?_⟩) (fun z' => ⟨fun _ => ⟨fun _ => go _ _ fun y => z' (C.pts g h2 pI y (Or.inr rfl)), fun y => absurd (by decide) y⟩, fun y => absurd rfl y⟩)
      -- after a move
      have fin : ∀ Q : Nat → Prop, 2 ≤ cnt sl (fun s => Tp piece sl p s ∧ Q s) → 2 ≤ cnt sl (fun s => Tp piece sl p s ∧ ¬ Q s) → (∀ s t x, Tp piece sl p s → Tp piece sl p t → Q s → ¬ Q t → (x = en one s ∨ x = en two s) → (x = en one t ∨ x = en two t) → x = u ∨ x = v) → ct ≤ 97 ∧ ∀ gr many one' two' what' piece', SpA one two piece sl ct p u v Q one' two' piece' → (∀ s, s < sl → what' s = what s) → what' sl = (-1) - nI (ct - 1) → what' (sl + 1) = (-1) - nI (ct - 1) → post 1 (nI (sl + 2)) one' two' what' piece' (nI (ct + 1)) (nI (ct - 1 + 1)) gr many := fun Q n1 n2 com => by
        obtain ⟨a, a', ha, ha', k1, k2, k3⟩ := cnt_ex2 n1
        obtain ⟨d, d', hd, hd', k4, k5, k6⟩ := cnt_ex2 n2
        obtain ⟨ct97, S⟩ := C.split g h2 (u := u) (v := v) hp (by omega) (by omega) (by omega) ⟨a, a', k1.1, k2.1, k1.2, k2.2, k3⟩ ⟨d, d', k4.1, k5.1, k4.2, k5.2, k6⟩ com
        refine ⟨ct97, fun gr many one' two' what' piece' X w1 w2 w3 => ?_⟩
        obtain ⟨x1, x2, x3, x4, x5, x6, x7, x8, x9, x10⟩ := id X
        obtain ⟨C', tp, tc, tq⟩ := S one' two' piece' x1 x2 x3 x4 x5 x6 x7 x8 x9 x10
        refine h1 one' two' what' piece' gr many ct97 ⟨C', fun s hs => ?_, fun k hk => ?_⟩ (fun q hq qp a c k => ?_)
        · rw [w1 s (by omega)]; exact R.2.1 s hs
        · by_cases e : k + 1 < ct
          · rw [w1 _ (by omega), w1 _ (by omega)]; exact R.2.2 k e
          · have e1 : b + 2 * k = sl := by omega
            have e2 : k = ct - 1 := by omega
            rw [e1, w2, w3, e2]; exact ⟨rfl, rfl⟩
        · exact Spl_congr k (tq q hq qp) (fun s hs => by unfold en; rw [x5 s ((tq q hq qp s).mp hs).1]) (fun s hs => by unfold en; rw [x6 s ((tq q hq qp s).mp hs).1])
      refine sp_partOf C hp (by omega) (by omega) (by omega) (fun gg gr many hg L n1 n2 => ?_) (fun gr many n1 n2 => ?_) (fun gr many z => ⟨fun _ => go _ _ z, fun y => absurd (by decide) y⟩)
      · refine ⟨fun y => absurd y (zI_nn (by omega)), fun _ => ?_⟩
        obtain ⟨ct97, F⟩ := fin _ n1 n2 (lab_com (by omega) L (fun s hs => C.e40 (C.Tlv pI hs)))
        refine sp_move C hp ct97 (ct - 1) (Q := fun s => ¬ btw (en one) (en two) u v s ∧ gr (oe (en one) (en two) u v s) = nI gg) (fun k hk e J j1 j0 => ?_) (F gr many)
        obtain ⟨i1, i2, i3, i4, i5, i6⟩ := C.itm pI hk e
        refine ⟨fun _ => sp_groupOf i1 i2 i3 i4 i5 (by omega) (by omega) (fun y => ⟨fun _ => j0 fun t => t.1 y, fun t => absurd t.symm (zI_ne (by omega))⟩) (fun y => ⟨fun t => j0 fun s => t s.2, fun t => j1 ⟨y, t⟩⟩), fun y => ?_⟩
        rw [L40, zI_eq (by omega) (by omega)] at y
        omega
      · refine ⟨fun y => absurd y (zI_nn (by omega)), fun _ => ?_⟩
        have cf := cnt_first (P := fun s => Tp piece sl p s ∧ btw (en one) (en two) u v s) 2
        have cq : ∀ n, cnt n (fun s => Tp piece sl p s ∧ (btw (en one) (en two) u v s ∧ cnt s (fun s => Tp piece sl p s ∧ btw (en one) (en two) u v s) < 2)) = min 2 (cnt n (fun s => Tp piece sl p s ∧ btw (en one) (en two) u v s)) := fun n => by
          rw [← cf n]
          exact cnt_congr fun s _ => ⟨fun k => ⟨⟨k.1, k.2.1⟩, k.2.2⟩, fun k => ⟨k.1.1, k.1.2, k.2⟩⟩
        have cs := cnt_split (P := Tp piece sl p) (Q := fun s => btw (en one) (en two) u v s ∧ cnt s (fun s => Tp piece sl p s ∧ btw (en one) (en two) u v s) < 2) sl
        have c0 := cq sl
        obtain ⟨ct97, F⟩ := fin (fun s => btw (en one) (en two) u v s ∧ cnt s (fun s => Tp piece sl p s ∧ btw (en one) (en two) u v s) < 2) (by omega) (by omega) (fun s t x hs ht qs _ ks _ => by
          have d := C.e40 (C.Tlv pI hs)
          have := qs.1
          unfold btw at this
          omega)
        refine sp_move C hp ct97 (ct - 1) (Q := fun s => btw (en one) (en two) u v s ∧ cnt s (fun s => Tp piece sl p s ∧ btw (en one) (en two) u v s) < 2) (fun k hk e J j1 j0 => ?_) (F gr many)
        obtain ⟨i1, i2, i3, i4, i5, i6⟩ := C.itm pI hk e
        refine ⟨fun y => absurd rfl y, fun _ => ?_⟩
        have lek := cnt_le k (fun s => Tp piece sl p s ∧ btw (en one) (en two) u v s)
        rw [cq k, L2, zI_le (by omega) (by omega)]
        refine ⟨fun y => j0 fun t => by omega, fun y => sp_isBetween i1 i2 i3 i4 i5 (by omega) (by omega) (fun t => ⟨fun s => absurd s (by decide), fun _ => j1 ⟨t, by omega⟩⟩) (fun t => ⟨fun _ => j0 fun s => t s.1, fun s => absurd rfl s⟩)⟩
end
