/-! PURE PART XXIV: the class's pieces and the reference's are the same -/
theorem cnt_inj {m : Nat} {R : Nat → Nat → Prop} : ∀ (n : Nat) {P Q : Nat → Prop}, (∀ i, i < n → P i → ∃ s, s < m ∧ Q s ∧ R i s) → (∀ i i' s, R i s → R i' s → i = i') → cnt n P ≤ cnt m Q
  | 0, P, Q, _, _ => Nat.zero_le _
  | n + 1, P, Q, h, u => by
    rw [cnt_succ]
    by_cases p : P n
    · obtain ⟨s, hs, qs, rs⟩ := h n (by omega) p
      have a := cnt_inj n (P := P) (Q := fun x => Q x ∧ x ≠ s) (fun i hi pi => by
        obtain ⟨t, ht, qt, rt⟩ := h i (by omega) pi
        exact ⟨t, ht, ⟨qt, fun e => by have := u i n s (e ▸ rt) rs; omega⟩, rt⟩) u
      rw [cnt_rem hs qs, pr_t p]; omega
    · rw [pr_f p]
      exact cnt_inj n (fun i hi pi => h i (by omega) pi) u
theorem mask_uni {E : Nat → Prop} {I : Nat → Nat → Prop} {S : Nat → Prop} {h : Nat → Int} {M : Nat → Nat → Prop} {pt : Nat → Nat} {kd : Int → Int} (g : Gr E I) (h2 : Two E I) (D : Dec E I S h M pt kd) {s t : Nat} (hs : S s) (ht : S t) (m : ∀ e, E e → (M s e ↔ M t e)) : s = t := Classical.byContradiction fun n => by
  have hh : h s = h t := same_node g h2 D D hs hs hs ht (fun e he => Iff.rfl) (fun e he => (m e he).symm) rfl
  obtain ⟨e, he, me⟩ := D.2.2.2.1 s hs
  exact D.2.1 s t hs ht hh n e he me ((m e he).mp me)
def Mt (E : Nat → Prop) (M' M : Nat → Nat → Prop) (i s : Nat) : Prop := ∀ e, E e → (M' i e ↔ M s e)
section
variable {E : Nat → Prop} {I : Nat → Nat → Prop} {fe se ho kq : Nat → Int32} {sl ct : Nat} {M : Nat → Nat → Prop} {b : Nat} {w : Nat → Nat} {one two piece kinds : Nat → Int32} {sl' ct' : Nat} {M' : Nat → Nat → Prop}
theorem mt_ex (g : Gr E I) (h2 : Two E I) (F : FP E I 100 (fun s => s) fe se ho kq sl ct M) (F' : FP E I b w one two piece kinds sl' ct' M') {i : Nat} (hi : livS piece sl' i) : ∃ s, livS ho sl s ∧ Mt E M' M i s := by
  obtain ⟨s, hs, m⟩ := same_slot g h2 F'.2.1 F.2.1 hi
  exact ⟨s, hs, fun e he => (m e he).symm⟩
theorem mt_ex' (g : Gr E I) (h2 : Two E I) (F : FP E I 100 (fun s => s) fe se ho kq sl ct M) (F' : FP E I b w one two piece kinds sl' ct' M') {s : Nat} (hs : livS ho sl s) : ∃ i, livS piece sl' i ∧ Mt E M' M i s := by
  obtain ⟨i, hi, m⟩ := same_slot g h2 F.2.1 F'.2.1 hs
  exact ⟨i, hi, m⟩
theorem mt_uni (g : Gr E I) (h2 : Two E I) (F : FP E I 100 (fun s => s) fe se ho kq sl ct M) {i s t : Nat} (hs : livS ho sl s) (ht : livS ho sl t) (m : Mt E M' M i s) (m' : Mt E M' M i t) : s = t := mask_uni g h2 F.2.1 hs ht fun e he => (m e he).symm.trans (m' e he)
theorem mt_uni' (g : Gr E I) (h2 : Two E I) (F' : FP E I b w one two piece kinds sl' ct' M') {i k s : Nat} (hi : livS piece sl' i) (hk : livS piece sl' k) (m : Mt E M' M i s) (m' : Mt E M' M k s) : i = k := mask_uni g h2 F'.2.1 hi hk fun e he => (m e he).trans (m' e he).symm
/-- slots of one piece match slots of one piece -/
theorem mt_node (g : Gr E I) (h2 : Two E I) (F : FP E I 100 (fun s => s) fe se ho kq sl ct M) (F' : FP E I b w one two piece kinds sl' ct' M') {i k s t p q p' : Nat} (hs : Tp ho sl p s) (ht : Tp ho sl p' t) (hi : Tp piece sl' q i) (hk : Tp piece sl' q k) (hp : p < ct) (hp' : p' < ct) (hq : q < ct') (m : Mt E M' M i s) (m' : Mt E M' M k t) : p = p' := by
  have c1 := F.ct98
  have c2 := F'.ct98
  have := same_node g h2 F'.2.1 F.2.1 (F'.lv hi (by omega)) (F'.lv hk (by omega)) (F.lv hs (by omega)) (F.lv ht (by omega)) (fun e he => (m e he).symm) (fun e he => (m' e he).symm) ((Tp_hm hi hk (by omega) (by omega)).mpr rfl)
  exact (Tp_hm hs ht (by omega) (by omega)).mp this
theorem mt_node' (g : Gr E I) (h2 : Two E I) (F : FP E I 100 (fun s => s) fe se ho kq sl ct M) (F' : FP E I b w one two piece kinds sl' ct' M') {i k s t p q q' : Nat} (hs : Tp ho sl p s) (ht : Tp ho sl p t) (hi : Tp piece sl' q i) (hk : Tp piece sl' q' k) (hp : p < ct) (hq : q < ct') (hq' : q' < ct') (m : Mt E M' M i s) (m' : Mt E M' M k t) : q = q' := by
  have c1 := F.ct98
  have c2 := F'.ct98
  have := same_node g h2 F.2.1 F'.2.1 (F.lv hs (by omega)) (F.lv ht (by omega)) (F'.lv hi (by omega)) (F'.lv hk (by omega)) m m' ((Tp_hm hs ht (by omega) (by omega)).mpr rfl)
  exact (Tp_hm hi hk (by omega) (by omega)).mp this
theorem mt_ends (F : FP E I 100 (fun s => s) fe se ho kq sl ct M) (F' : FP E I b w one two piece kinds sl' ct' M') {i s : Nat} (hi : livS piece sl' i) (hs : livS ho sl s) (m : Mt E M' M i s) (x : Nat) : (x = en one i ∨ x = en two i) ↔ (x = en fe s ∨ x = en se s) :=
  (bas_end F'.1 hi).symm.trans ((bdy_congr m x).trans (bas_end F.1 hs))
/-- an edge's slot matches the edge's slot, a joint's a joint's -/
theorem mt_edge (F : FP E I 100 (fun s => s) fe se ho kq sl ct M) (F' : FP E I b w one two piece kinds sl' ct' M') {i s : Nat} (hi : livS piece sl' i) (hs : livS ho sl s) (m : Mt E M' M i s) : (i < b → s = w i ∧ s < 100) ∧ (b ≤ i → 100 ≤ s) := by
  constructor
  · intro hb
    obtain ⟨a1, a2⟩ := F'.1.2.2.2.2.2.2.2.2.1 i hi hb
    by_cases z : s < 100
    · obtain ⟨b1, b2⟩ := F.1.2.2.2.2.2.2.2.2.1 s hs z
      have b1 : E s := b1
      have := (a2 s b1).mp ((m s b1).mpr ((b2 s b1).mpr rfl))
      exact ⟨this, z⟩
    · obtain ⟨c1, c2, c3⟩ := F.1.2.2.2.2.2.2.1 s hs (by omega)
      obtain ⟨e, e', he, he', me, me', n⟩ := joint_big F.2.1 hs c1 c3
      exact absurd (((a2 e he).mp ((m e he).mpr me)).trans ((a2 e' he').mp ((m e' he').mpr me')).symm) n
  · intro hb
    refine Classical.byContradiction fun z => ?_
    obtain ⟨b1, b2⟩ := F.1.2.2.2.2.2.2.2.2.1 s hs (by omega)
    obtain ⟨c1, c2, c3⟩ := F'.1.2.2.2.2.2.2.1 i hi hb
    obtain ⟨e, e', he, he', me, me', n⟩ := joint_big F'.2.1 hi c1 c3
    exact n (((b2 e he).mp ((m e he).mp me)).trans ((b2 e' he').mp ((m e' he').mp me')).symm)
theorem mt_pt (F : FP E I 100 (fun s => s) fe se ho kq sl ct M) (F' : FP E I b w one two piece kinds sl' ct' M') {i s : Nat} (hi : livS piece sl' i) (hs : livS ho sl s) (m : Mt E M' M i s) (hb : b ≤ i) : Mt E M' M (ptb b i) (ptb 100 s) := by
  have h100 := (mt_edge F F' hi hs m).2 hb
  obtain ⟨-, -, c3⟩ := F.1.2.2.2.2.2.2.1 s hs h100
  obtain ⟨-, -, d3⟩ := F'.1.2.2.2.2.2.2.1 i hi hb
  intro e he
  rw [c3 e he, d3 e he, m e he]
theorem mt_kind (g : Gr E I) (h2 : Two E I) (F : FP E I 100 (fun s => s) fe se ho kq sl ct M) (F' : FP E I b w one two piece kinds sl' ct' M') {i s p q : Nat} (hi : Tp piece sl' q i) (hs : Tp ho sl p s) (hp : p < ct) (hq : q < ct') (m : Mt E M' M i s) : kinds q = kq p := by
  have c1 := F.ct98
  have c2 := F'.ct98
  have := same_kind g h2 F.2.1 F'.2.1 (F.lv hs (by omega)) (F'.lv hi (by omega)) m
  rw [kdf_nI (by omega) hs.2, kdf_nI (by omega) hi.2] at this
  exact (Int32.toInt_inj.mp this).symm
end
/-- the reference's piece q is the class's piece p -/
def Cor (E : Nat → Prop) (ho piece : Nat → Int32) (sl sl' : Nat) (M M' : Nat → Nat → Prop) (q p : Nat) : Prop := ∃ i s, Tp piece sl' q i ∧ Tp ho sl p s ∧ Mt E M' M i s
section
variable {E : Nat → Prop} {I : Nat → Nat → Prop} {fe se ho kq : Nat → Int32} {sl ct : Nat} {M : Nat → Nat → Prop} {b : Nat} {w : Nat → Nat} {one two piece kinds : Nat → Int32} {sl' ct' : Nat} {M' : Nat → Nat → Prop} {p q p' q' : Nat}
theorem cor_slot (g : Gr E I) (h2 : Two E I) (F : FP E I 100 (fun s => s) fe se ho kq sl ct M) (F' : FP E I b w one two piece kinds sl' ct' M') (hp : p < ct) (hq : q < ct') (C : Cor E ho piece sl sl' M M' q p) {i : Nat} (hi : Tp piece sl' q i) : ∃ s, Tp ho sl p s ∧ Mt E M' M i s := by
  have c1 := F.ct98
  have c2 := F'.ct98
  obtain ⟨s, hs, m⟩ := mt_ex g h2 F F' (F'.lv hi (by omega))
  obtain ⟨p1, hp1, t1⟩ := F.pc hs
  obtain ⟨k, t, hk, ht, mk⟩ := C
  have := mt_node g h2 F F' ht t1 hk hi hp hp1 hq mk m
  exact ⟨s, this ▸ t1, m⟩
theorem cor_slot' (g : Gr E I) (h2 : Two E I) (F : FP E I 100 (fun s => s) fe se ho kq sl ct M) (F' : FP E I b w one two piece kinds sl' ct' M') (hp : p < ct) (hq : q < ct') (C : Cor E ho piece sl sl' M M' q p) {s : Nat} (hs : Tp ho sl p s) : ∃ i, Tp piece sl' q i ∧ Mt E M' M i s := by
  have c1 := F.ct98
  have c2 := F'.ct98
  obtain ⟨i, hi, m⟩ := mt_ex' g h2 F F' (F.lv hs (by omega))
  obtain ⟨q1, hq1, t1⟩ := F'.pc hi
  obtain ⟨k, t, hk, ht, mk⟩ := C
  have := mt_node' g h2 F F' ht hs hk t1 hp hq hq1 mk m
  exact ⟨i, this ▸ t1, m⟩
theorem cor_of (g : Gr E I) (h2 : Two E I) (F : FP E I 100 (fun s => s) fe se ho kq sl ct M) (F' : FP E I b w one two piece kinds sl' ct' M') {i s : Nat} (hi : Tp piece sl' q i) (hs : Tp ho sl p s) (m : Mt E M' M i s) : Cor E ho piece sl sl' M M' q p := ⟨i, s, hi, hs, m⟩
theorem cor_fun (g : Gr E I) (h2 : Two E I) (F : FP E I 100 (fun s => s) fe se ho kq sl ct M) (F' : FP E I b w one two piece kinds sl' ct' M') (hp : p < ct) (hp' : p' < ct) (hq : q < ct') (C : Cor E ho piece sl sl' M M' q p) (C' : Cor E ho piece sl sl' M M' q p') : p = p' := by
  obtain ⟨i, s, hi, hs, m⟩ := C
  obtain ⟨k, t, hk, ht, m'⟩ := C'
  exact mt_node g h2 F F' hs ht hi hk hp hp' hq m m'
theorem cor_inj (g : Gr E I) (h2 : Two E I) (F : FP E I 100 (fun s => s) fe se ho kq sl ct M) (F' : FP E I b w one two piece kinds sl' ct' M') (hp : p < ct) (hq : q < ct') (hq' : q' < ct') (C : Cor E ho piece sl sl' M M' q p) (C' : Cor E ho piece sl sl' M M' q' p) : q = q' := by
  obtain ⟨i, s, hi, hs, m⟩ := C
  obtain ⟨k, t, hk, ht, m'⟩ := C'
  exact mt_node' g h2 F F' hs ht hi hk hp hq hq' m m'
theorem cor_size (g : Gr E I) (h2 : Two E I) (F : FP E I 100 (fun s => s) fe se ho kq sl ct M) (F' : FP E I b w one two piece kinds sl' ct' M') (hp : p < ct) (hq : q < ct') (C : Cor E ho piece sl sl' M M' q p) : cnt sl' (Tp piece sl' q) = cnt sl (Tp ho sl p) := by
  have c1 := F.ct98
  have c2 := F'.ct98
  have a : cnt sl' (Tp piece sl' q) ≤ cnt sl (Tp ho sl p) := cnt_inj (R := fun i s => livS piece sl' i ∧ Mt E M' M i s) sl' (fun i _ ti => by
    obtain ⟨s, hs, m⟩ := cor_slot g h2 F F' hp hq C ti
    exact ⟨s, hs.1, hs, F'.lv ti (by omega), m⟩) (fun i i' s k k' => mt_uni' g h2 F' k.1 k'.1 k.2 k'.2)
  have b : cnt sl (Tp ho sl p) ≤ cnt sl' (Tp piece sl' q) := cnt_inj (R := fun s i => livS ho sl s ∧ Mt E M' M i s) sl (fun s _ ts => by
    obtain ⟨i, hi, m⟩ := cor_slot' g h2 F F' hp hq C ts
    exact ⟨i, hi.1, hi, F.lv ts (by omega), m⟩) (fun s s' i k k' => mt_uni g h2 F k.1 k'.1 k.2 k'.2)
  omega
theorem cor_pts (g : Gr E I) (h2 : Two E I) (F : FP E I 100 (fun s => s) fe se ho kq sl ct M) (F' : FP E I b w one two piece kinds sl' ct' M') (hp : p < ct) (hq : q < ct') (C : Cor E ho piece sl sl' M M' q p) (x : Nat) : Pts (Tp piece sl' q) (en one) (en two) x ↔ Pts (Tp ho sl p) (en fe) (en se) x := by
  have c1 := F.ct98
  have c2 := F'.ct98
  constructor
  · rintro ⟨i, ti, k⟩
    obtain ⟨s, hs, m⟩ := cor_slot g h2 F F' hp hq C ti
    exact ⟨s, hs, (mt_ends F F' (F'.lv ti (by omega)) (F.lv hs (by omega)) m x).mp k⟩
  · rintro ⟨s, ts, k⟩
    obtain ⟨i, hi, m⟩ := cor_slot' g h2 F F' hp hq C ts
    exact ⟨i, hi, (mt_ends F F' (F'.lv hi (by omega)) (F.lv ts (by omega)) m x).mpr k⟩
theorem cor_kind (g : Gr E I) (h2 : Two E I) (F : FP E I 100 (fun s => s) fe se ho kq sl ct M) (F' : FP E I b w one two piece kinds sl' ct' M') (hp : p < ct) (hq : q < ct') (C : Cor E ho piece sl sl' M M' q p) : kinds q = kq p := by
  obtain ⟨i, s, hi, hs, m⟩ := C
  exact mt_kind g h2 F F' hi hs hp hq m
end
