/-! PURE PART VII: which points the slots of a piece join; what lies together without two points -/
theorem sp_fillJ {n : Nat} {a : Nat → Int64} {x : Int64} {post : (Nat → Int64) → Prop} (hn : n < 1000) (h : ∀ b, (∀ i, i < n → b i = x) → post b) : wp_Arrays_fillJ n a x post := by
  unfold wp_Arrays_fillJ
  refine for2 n (fun k b => ∀ i, i < k → b i = x) (by omega) 0 a (by omega) (by omega) (fun K k b hk hJ nx => ⟨fun q => ?_, fun q => ?_⟩)
  · rw [zI_le (by omega) (by omega)] at q
    exact h b (fun i hi => hJ i (by omega))
  · rw [zI_le (by omega) (by omega)] at q
    refine ⟨(in_nI (by omega)).mpr (by omega), fun b' e => ?_⟩
    rw [zI_succ]
    refine nx (by omega) b' (fun i hi => ?_)
    rw [e, ix_nI (by omega)]
    by_cases z : i = k
    · subst z; exact updL_at
    · rw [updL_ne z]; exact hJ i (by omega)
theorem sp_fillI {n : Nat} {a : Nat → Int32} {x : Int32} {post : (Nat → Int32) → Prop} (hn : n < 1000) (h : ∀ b, (∀ i, i < n → b i = x) → post b) : wp_Arrays_fillI n a x post := by
  unfold wp_Arrays_fillI
  refine for2 n (fun k b => ∀ i, i < k → b i = x) (by omega) 0 a (by omega) (by omega) (fun K k b hk hJ nx => ⟨fun q => ?_, fun q => ?_⟩)
  · rw [zI_le (by omega) (by omega)] at q
    exact h b (fun i hi => hJ i (by omega))
  · rw [zI_le (by omega) (by omega)] at q
    refine ⟨(in_nI (by omega)).mpr (by omega), fun b' e => ?_⟩
    rw [zI_succ]
    refine nx (by omega) b' (fun i hi => ?_)
    rw [e, ix_nI (by omega)]
    by_cases z : i = k
    · subst z; exact upd_at
    · rw [upd_ne z]; exact hJ i (by omega)
theorem sp_link {near twice : Nat → Int64} {present : Int64} {a b : Nat} {post : (Nat → Int64) → (Nat → Int64) → Int64 → Prop} (ha : a < 40) (hb : b < 40) (hab : a ≠ b)
    (h : ∀ near' twice' present', (∀ q, bt present' q ↔ bt present q ∨ q = a ∨ q = b) → (∀ p q, bt (near' p) q ↔ bt (near p) q ∨ (p = a ∧ q = b) ∨ (p = b ∧ q = a)) → (∀ p q, bt (twice' p) q ↔ bt (twice p) q ∨ (p = a ∧ q = b ∧ bt (near a) b) ∨ (p = b ∧ q = a ∧ bt (near b) a)) → post near' twice' present') : wp_Links_link near twice present (nI a) (nI b) post := by
  have ia : vp_in (nI a) 40 := (in_nI (by omega)).mpr ha
  have ib : vp_in (nI b) 40 := (in_nI (by omega)).mpr hb
  have xa : ix (nI a) = a := ix_nI (by omega)
  have xb : ix (nI b) = b := ix_nI (by omega)
  unfold wp_Links_link
  rw [xa, xb]
  refine ⟨ia, ia, sp_only hb fun r1 h1 x2 e2 => ⟨ia, fun t4 e4 => ⟨ib, ib, sp_only ha fun r6 h6 x7 e7 => ⟨ib, fun t9 e9 => ⟨ia, sp_only hb fun r11 h11 => ⟨ia, fun n12 e12 => ⟨ib, sp_only ha fun r14 h14 => ⟨ib, fun n15 e15 => sp_only ha fun r17 h17 => sp_only hb fun r18 h18 => ?_⟩⟩⟩⟩⟩⟩⟩⟩
  refine h _ _ _ (fun q => ?_) (fun p q => ?_) (fun p q => ?_)
  · rw [bt_or, bt_or, h17, h18]
  · rw [e15]
    by_cases z : p = b
    · subst z
      rw [updL_at, e12, updL_ne (fun k => hab k.symm), bt_or, h14]
      constructor
      · rintro (k | k)
        · exact Or.inl k
        · exact Or.inr (Or.inr ⟨rfl, k⟩)
      · rintro (k | k | k)
        · exact Or.inl k
        · exact absurd k.1.symm hab
        · exact Or.inr k.2
    · rw [updL_ne z, e12]
      by_cases y : p = a
      · subst y
        rw [updL_at, bt_or, h11]
        constructor
        · rintro (k | k)
          · exact Or.inl k
          · exact Or.inr (Or.inl ⟨rfl, k⟩)
        · rintro (k | k | k)
          · exact Or.inl k
          · exact Or.inr k.2
          · exact absurd k.1 z
      · rw [updL_ne y]
        exact ⟨Or.inl, fun k => k.elim id (fun k => k.elim (fun k => absurd k.1 y) (fun k => absurd k.1 z))⟩
  · rw [e9]
    by_cases z : p = b
    · subst z
      rw [updL_at, e7, e4, updL_ne (fun k => hab k.symm), bt_or, bt_and, h6]
      constructor
      · rintro (k | k)
        · exact Or.inl k
        · exact Or.inr (Or.inr ⟨rfl, k.2, k.2 ▸ k.1⟩)
      · rintro (k | k | k)
        · exact Or.inl k
        · exact absurd k.1.symm hab
        · exact Or.inr ⟨k.2.1 ▸ k.2.2, k.2.1⟩
    · rw [updL_ne z, e4]
      by_cases y : p = a
      · subst y
        rw [updL_at, e2, bt_or, bt_and, h1]
        constructor
        · rintro (k | k)
          · exact Or.inl k
          · exact Or.inr (Or.inl ⟨rfl, k.2, k.2 ▸ k.1⟩)
        · rintro (k | k | k)
          · exact Or.inl k
          · exact Or.inr ⟨k.2.1 ▸ k.2.2, k.2.1⟩
          · exact absurd k.1 z
      · rw [updL_ne y]
        exact ⟨Or.inl, fun k => k.elim id (fun k => k.elim (fun k => absurd k.1 y) (fun k => absurd k.1 z))⟩
/-- near, twice, present are those of the slots T -/
def Lk (T : Nat → Prop) (U V : Nat → Nat) (near twice : Nat → Int64) (present : Int64) : Prop :=
  (∀ x, bt present x ↔ ∃ s, T s ∧ (x = U s ∨ x = V s)) ∧
  (∀ p q, p < 40 → (bt (near p) q ↔ ∃ s, T s ∧ ((p = U s ∧ q = V s) ∨ (p = V s ∧ q = U s)))) ∧
  (∀ p q, p < 40 → (bt (twice p) q ↔ ∃ s t, T s ∧ T t ∧ s ≠ t ∧ ((p = U s ∧ q = V s) ∨ (p = V s ∧ q = U s)) ∧ ((p = U t ∧ q = V t) ∨ (p = V t ∧ q = U t))))
theorem Lk_zero {U V : Nat → Nat} {near twice : Nat → Int64} (h1 : ∀ i, i < 40 → near i = 0) (h2 : ∀ i, i < 40 → twice i = 0) {T : Nat → Prop} (hT : ∀ s, ¬ T s) : Lk T U V near twice 0 :=
  ⟨fun x => ⟨fun k => absurd k (bt_zero x), fun ⟨s, hs, _⟩ => absurd hs (hT s)⟩, fun p q hp => ⟨fun k => absurd (h1 p hp ▸ k) (bt_zero q), fun ⟨s, hs, _⟩ => absurd hs (hT s)⟩, fun p q hp => ⟨fun k => absurd (h2 p hp ▸ k) (bt_zero q), fun ⟨s, _, hs, _⟩ => absurd hs (hT s)⟩⟩
theorem Lk_congr {T T' : Nat → Prop} {U V U' V' : Nat → Nat} {near twice : Nat → Int64} {present : Int64} (h : Lk T U V near twice present) (hT : ∀ s, T s ↔ T' s) (hU : ∀ s, T s → U s = U' s) (hV : ∀ s, T s → V s = V' s) : Lk T' U' V' near twice present := by
  obtain ⟨a, b, c⟩ := h
  refine ⟨fun x => (a x).trans ⟨fun ⟨s, hs, k⟩ => ⟨s, (hT s).mp hs, hU s hs ▸ hV s hs ▸ k⟩, fun ⟨s, hs, k⟩ => ⟨s, (hT s).mpr hs, by rw [hU s ((hT s).mpr hs), hV s ((hT s).mpr hs)]; exact k⟩⟩, fun p q hp => (b p q hp).trans ⟨fun ⟨s, hs, k⟩ => ⟨s, (hT s).mp hs, by rw [← hU s hs, ← hV s hs]; exact k⟩, fun ⟨s, hs, k⟩ => ⟨s, (hT s).mpr hs, by rw [hU s ((hT s).mpr hs), hV s ((hT s).mpr hs)]; exact k⟩⟩, fun p q hp => (c p q hp).trans ⟨fun ⟨s, t, hs, ht, st, k, k'⟩ => ⟨s, t, (hT s).mp hs, (hT t).mp ht, st, by rw [← hU s hs, ← hV s hs]; exact k, by rw [← hU t ht, ← hV t ht]; exact k'⟩, fun ⟨s, t, hs, ht, st, k, k'⟩ => ⟨s, t, (hT s).mpr hs, (hT t).mpr ht, st, by rw [hU s ((hT s).mpr hs), hV s ((hT s).mpr hs)]; exact k, by rw [hU t ((hT t).mpr ht), hV t ((hT t).mpr ht)]; exact k'⟩⟩⟩
theorem Lk_add {T : Nat → Prop} {U V : Nat → Nat} {near twice : Nat → Int64} {present : Int64} {s0 : Nat} {post : (Nat → Int64) → (Nat → Int64) → Int64 → Prop} (L : Lk T U V near twice present) (hs : ¬ T s0) (ha : U s0 < 40) (hb : V s0 < 40) (hab : U s0 ≠ V s0)
    (h : ∀ near' twice' present', Lk (fun s => T s ∨ s = s0) U V near' twice' present' → post near' twice' present') : wp_Links_link near twice present (nI (U s0)) (nI (V s0)) post := by
  obtain ⟨l1, l2, l3⟩ := L
  refine sp_link ha hb hab fun n' t' p' e1 e2 e3 => h n' t' p' ⟨fun x => ?_, fun p q hp => ?_, fun p q hp => ?_⟩
  · rw [e1, l1]
    constructor
    · rintro (⟨s, k, z⟩ | k)
      · exact ⟨s, Or.inl k, z⟩
      · exact ⟨s0, Or.inr rfl, k⟩
    · rintro ⟨s, k | rfl, z⟩
      · exact Or.inl ⟨s, k, z⟩
      · exact Or.inr z
  · rw [e2, l2 p q hp]
    constructor
    · rintro (⟨s, k, z⟩ | k)
      · exact ⟨s, Or.inl k, z⟩
      · exact ⟨s0, Or.inr rfl, k⟩
    · rintro ⟨s, k | rfl, z⟩
      · exact Or.inl ⟨s, k, z⟩
      · exact Or.inr z
  · rw [e3, l3 p q hp, l2 _ _ ha, l2 _ _ hb]
    constructor
    · rintro (⟨s, t, hs, ht, z⟩ | ⟨rfl, rfl, s, k, z⟩ | ⟨rfl, rfl, s, k, z⟩)
      · exact ⟨s, t, Or.inl hs, Or.inl ht, z⟩
      · exact ⟨s, s0, Or.inl k, Or.inr rfl, fun y => hs (y ▸ k), z, Or.inl ⟨rfl, rfl⟩⟩
      · exact ⟨s, s0, Or.inl k, Or.inr rfl, fun y => hs (y ▸ k), z, Or.inr ⟨rfl, rfl⟩⟩
    · rintro ⟨s, t, k | rfl, k' | rfl, st, z, z'⟩
      · exact Or.inl ⟨s, t, k, k', st, z, z'⟩
      · rcases z' with ⟨rfl, rfl⟩ | ⟨rfl, rfl⟩
        · exact Or.inr (Or.inl ⟨rfl, rfl, s, k, z⟩)
        · exact Or.inr (Or.inr ⟨rfl, rfl, s, k, z⟩)
      · rcases z with ⟨rfl, rfl⟩ | ⟨rfl, rfl⟩
        · exact Or.inr (Or.inl ⟨rfl, rfl, t, k', z'⟩)
        · exact Or.inr (Or.inr ⟨rfl, rfl, t, k', z'⟩)
      · exact absurd rfl st
/-- the points of a set that its least point is joined with inside the set -/
theorem sp_reach {near : Nat → Int64} {x : Int64} {post : Int64 → Prop} (h40 : ∀ p, bt x p → p < 40)
    (h : ∀ r, (∀ p, bt r p → bt x p) → (∀ p, bt x p → (∀ q, q < p → ¬ bt x q) → bt r p) → (∀ p q, bt r p → bt (near p) q → bt x q → bt r q) → (∀ Y : Nat → Prop, (∀ p, bt x p → (∀ q, q < p → ¬ bt x q) → Y p) → (∀ p q, Y p → bt x p → bt (near p) q → bt x q → Y q) → ∀ p, bt r p → Y p) → post r) : wp_Links_reach near x post := by
  unfold wp_Links_reach
  refine sL3_of (fun s w i => ∃ k, i = nI k ∧ k ≤ 40 ∧ (∀ p, bt s p → bt x p) ∧ (∀ p, bt w p → bt s p) ∧ (∀ p, bt x p → (∀ q, q < p → ¬ bt x q) → bt s p) ∧ (∀ p q, bt s p → ¬ bt w p → bt (near p) q → bt x q → bt s q) ∧ k ≤ cnt 40 (fun p => bt s p ∧ ¬ bt w p) ∧ (∀ Y : Nat → Prop, (∀ p, bt x p → (∀ q, q < p → ¬ bt x q) → Y p) → (∀ p q, Y p → bt x p → bt (near p) q → bt x q → Y q) → ∀ p, bt s p → Y p)) (fun _ _ i => 40 - ix i) ?_ _ _ _ ⟨0, rfl, by omega, fun p hp => ((bt_low x p).mp hp).1, fun p hp => hp, fun p a b => (bt_low x p).mpr ⟨a, b⟩, fun p q a b => absurd a b, Nat.zero_le _, fun Y a _ p hp => a p ((bt_low x p).mp hp).1 ((bt_low x p).mp hp).2⟩
  rintro K s w i ⟨k, rfl, hk, c1, c2, c3, c4, c5, c6⟩ ih
  refine ⟨fun q => ?_, fun q => ⟨fun z => ?_, fun z => ⟨fun y => ?_, fun y => ?_⟩⟩⟩
  · rw [L40, zI_le (by omega) (by omega)] at q
    refine h s c1 c3 (fun p r a b d => c4 p r a ?_ b d) c6
    have := cnt_eq (n := 40) (P := fun p => bt s p ∧ ¬ bt w p) (Q := fun _ => True) (fun _ _ _ => trivial) (by rw [cnt_all 40 (fun _ _ => trivial)]; omega) p (h40 p (c1 p a)) trivial
    exact this.2
  · rw [cmp0] at z
    exact h s c1 c3 (fun p r a b d => c4 p r a (by rw [z]; exact bt_zero p) b d) c6
  · rw [cmp0] at y
    subst y
    exact h s c1 c3 (fun p r a b d => d) c6
  · rw [L40, zI_le (by omega) (by omega)] at q
    rw [cmp0] at z y
    obtain ⟨p, hp, wp, lp, ep, sp⟩ := sp_low z (fun p a => h40 p (c1 p (c2 p a)))
    refine sp _ ?_
    refine ⟨(in_nI (by omega)).mpr hp, fun f ef w' ew' => ?_⟩
    rw [ix_nI (by omega)] at ef
    have bf : ∀ r, bt f r ↔ bt (near p) r ∧ bt x r ∧ ¬ bt s r := fun r => by
      rw [ef, bt_and, bt_and]
      constructor
      · rintro ⟨⟨a, b⟩, c⟩; exact ⟨a, b, (bt_not s (by have := h40 r b; omega)).mp c⟩
      · rintro ⟨a, b, c⟩; exact ⟨⟨a, b⟩, (bt_not s (by have := h40 r b; omega)).mpr c⟩
    have bw : ∀ r, bt w' r ↔ (bt w r ∧ r ≠ p) ∨ bt f r := fun r => by
      rw [ew', bt_or, bt_and]
      constructor
      · rintro (⟨a, b⟩ | a)
        · exact Or.inl ⟨a, fun k => (bt_not _ (bt_lt a)).mp b ((ep r).mpr k)⟩
        · exact Or.inr a
      · rintro (⟨a, b⟩ | a)
        · exact Or.inl ⟨a, (bt_not _ (bt_lt a)).mpr (fun k => b ((ep r).mp k))⟩
        · exact Or.inr a
    have bs : ∀ r, bt (s ||| f) r ↔ bt s r ∨ bt f r := bt_or s f
    rw [zI_succ]
    refine ih _ _ _ ⟨k + 1, rfl, by omega, ?_, ?_, ?_, ?_, ?_, ?_⟩ (by rw [ix_nI (by omega), ix_nI (by omega)]; omega)
    · intro r hr
      rcases (bs r).mp hr with a | a
      · exact c1 r a
      · exact ((bf r).mp a).2.1
    · intro r hr
      rw [bs]
      rcases (bw r).mp hr with a | a
      · exact Or.inl (c2 r a.1)
      · exact Or.inr a
    · intro r a b
      rw [bs]; exact Or.inl (c3 r a b)
    · intro r t a b c d
      rw [bs]
      rw [bs] at a
      have nf : ¬ bt f r := fun k => b ((bw r).mpr (Or.inr k))
      have as : bt s r := a.resolve_right nf
      by_cases e : r = p
      · subst e
        by_cases g : bt s t
        · exact Or.inl g
        · exact Or.inr ((bf t).mpr ⟨c, d, g⟩)
      · exact Or.inl (c4 r t as (fun k => b ((bw r).mpr (Or.inl ⟨k, e⟩))) c d)
    · have : cnt 40 (fun p => bt s p ∧ ¬ bt w p) < cnt 40 (fun p => bt (s ||| f) p ∧ ¬ bt w' p) := by
        refine cnt_lt (fun r _ a => ⟨(bs r).mpr (Or.inl a.1), fun k => ?_⟩) hp ⟨(bs p).mpr (Or.inl (c2 p wp)), fun k => ?_⟩ (fun k => k.2 wp)
        · rcases (bw r).mp k with b | b
          · exact a.2 b.1
          · exact ((bf r).mp b).2.2 a.1
        · rcases (bw p).mp k with b | b
          · exact b.2 rfl
          · exact ((bf p).mp b).2.2 (c2 p wp)
      omega
    · intro Y a b r hr
      rcases (bs r).mp hr with d | d
      · exact c6 Y a b r d
      · exact b p r (c6 Y a b p (c2 p wp)) (c1 p (c2 p wp)) ((bf r).mp d).1 ((bf r).mp d).2.1
