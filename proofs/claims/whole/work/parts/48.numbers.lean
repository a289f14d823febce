/-! PURE PART XXII: the numbers of the nodes -/
theorem sumN_ge {g : Nat → Nat} {m : Nat} : ∀ n : Nat, m < n → g m ≤ sumN n g
  | 0, h => absurd h (Nat.not_lt_zero _)
  | n + 1, h => by
    show g m ≤ sumN n g + g n
    by_cases z : m = n
    · rw [z]; omega
    · have := sumN_ge (g := g) (m := m) n (by omega); omega
def an (par : Nat → Nat) : Nat → Nat → Nat → Prop
  | 0, a, j => a = j
  | n + 1, a, j => 1 ≤ j ∧ an par n a (par j)
theorem an_child {par : Nat → Nat} : ∀ {n a j : Nat}, an par (n + 1) a j → ∃ x, an par n x j ∧ 1 ≤ x ∧ par x = a
  | 0, a, j, h => ⟨j, rfl, h.1, h.2.symm⟩
  | n + 1, a, j, h => by
    obtain ⟨x, h1, h2, h3⟩ := an_child (par := par) (n := n) h.2
    exact ⟨x, ⟨h.1, h1⟩, h2, h3⟩
section
variable {c : Nat} {par lst wt num : Nat → Nat}
/-- siblings' least edges differ -/
def Sib (c : Nat) (par lst : Nat → Nat) : Prop := ∀ j k, 1 ≤ j → 1 ≤ k → j < c → k < c → par j = par k → j ≠ k → lst j ≠ lst k
theorem num_A (hp : ∀ j, 1 ≤ j → j < c → par j < j) (h5 : O5 c par wt) (h6 : O6 c par lst wt num) {m : Nat} (m1 : 1 ≤ m) (mc : m < c) : num (par m) < num m ∧ num m + wt m ≤ num (par m) + wt (par m) := by
  have a := h6.2 m m1 mc
  have b := h5.1 (par m) (by have := hp m m1 mc; omega)
  have e : sumN c (fun k => pr ((1 ≤ k ∧ par k = par m ∧ lst k < lst m) ∨ k = m) * wt k) = les c par lst wt m + wt m := by
    unfold les
    exact sumN_ins (Q := fun k => 1 ≤ k ∧ par k = par m ∧ lst k < lst m) mc (by omega) (fun _ _ => Iff.rfl)
  have le : sumN c (fun k => pr ((1 ≤ k ∧ par k = par m ∧ lst k < lst m) ∨ k = m) * wt k) ≤ chs c par wt (par m) := by
    unfold chs
    refine sumN_le c fun k _ => Nat.mul_le_mul_right _ (pr_mono fun z => ?_)
    rcases z with z | rfl
    · exact ⟨z.1, z.2.1⟩
    · exact ⟨m1, rfl⟩
  omega
theorem num_B (h6 : O6 c par lst wt num) {m k : Nat} (m1 : 1 ≤ m) (mc : m < c) (k1 : 1 ≤ k) (kc : k < c) (e : par m = par k) (lt : lst m < lst k) : num m + wt m ≤ num k := by
  have a := h6.2 m m1 mc
  have b := h6.2 k k1 kc
  have e1 : sumN c (fun x => pr ((1 ≤ x ∧ par x = par m ∧ lst x < lst m) ∨ x = m) * wt x) = les c par lst wt m + wt m := by
    unfold les
    exact sumN_ins (Q := fun k => 1 ≤ k ∧ par k = par m ∧ lst k < lst m) mc (by omega) (fun _ _ => Iff.rfl)
  have le : sumN c (fun x => pr ((1 ≤ x ∧ par x = par m ∧ lst x < lst m) ∨ x = m) * wt x) ≤ les c par lst wt k := by
    unfold les
    refine sumN_le c fun x _ => Nat.mul_le_mul_right _ (pr_mono fun z => ?_)
    rcases z with z | rfl
    · exact ⟨z.1, z.2.1.trans e, by omega⟩
    · exact ⟨m1, e, lt⟩
  rw [e] at a
  omega
theorem an_in (hp : ∀ j, 1 ≤ j → j < c → par j < j) (h5 : O5 c par wt) (h6 : O6 c par lst wt num) : ∀ {n a j : Nat}, j < c → an par n a j → num a ≤ num j ∧ num j + wt j ≤ num a + wt a ∧ (a ≠ j → num a < num j) ∧ a < c
  | 0, a, j, hj, h => by
    have h : a = j := h
    subst h
    exact ⟨Nat.le_refl _, Nat.le_refl _, fun k => absurd rfl k, hj⟩
  | n + 1, a, j, hj, h => by
    have pj := hp j h.1 hj
    obtain ⟨x1, x2, x3, x4⟩ := an_in hp h5 h6 (n := n) (a := a) (j := par j) (by omega) h.2
    have := num_A hp h5 h6 h.1 hj
    exact ⟨by omega, by omega, fun _ => by omega, x4⟩
theorem an_root (hp : ∀ j, 1 ≤ j → j < c → par j < j) : ∀ j, j < c → ∃ n, an par n 0 j := by
  intro j
  induction j using Nat.strongRecOn with
  | ind j ih =>
    intro hj
    by_cases z : j = 0
    · exact ⟨0, z.symm⟩
    · have := hp j (by omega) hj
      obtain ⟨n, k⟩ := ih (par j) this (by omega)
      exact ⟨n + 1, by omega, k⟩
theorem num_le (hp : ∀ j, 1 ≤ j → j < c → par j < j) (h5 : O5 c par wt) (h6 : O6 c par lst wt num) {j : Nat} (hj : j < c) : num j + wt j ≤ c ∧ 1 ≤ wt j := by
  obtain ⟨n, k⟩ := an_root hp j hj
  obtain ⟨-, a, -, -⟩ := an_in hp h5 h6 hj k
  have := h5.1 j hj
  rw [h5.2, h6.1] at a
  omega
theorem num_tri (hp : ∀ j, 1 ≤ j → j < c → par j < j) (sb : Sib c par lst) (h5 : O5 c par wt) (h6 : O6 c par lst wt num) : ∀ N j k, j + k ≤ N → j < c → k < c → (∃ n, an par n j k) ∨ (∃ n, an par n k j) ∨ num j + wt j ≤ num k ∨ num k + wt k ≤ num j := by
  intro N
  induction N with
  | zero =>
    intro j k h hj hk
    exact Or.inl ⟨0, by show j = k; omega⟩
  | succ N ih =>
    have step : ∀ j k, j < k → j + k ≤ N + 1 → j < c → k < c → (∃ n, an par n j k) ∨ (∃ n, an par n k j) ∨ num j + wt j ≤ num k ∨ num k + wt k ≤ num j := fun j k jk h hj hk => by
      have pk := hp k (by omega) hk
      have A := num_A hp h5 h6 (show 1 ≤ k by omega) hk
      rcases ih j (par k) (by omega) hj (by omega) with ⟨n, a⟩ | ⟨n, a⟩ | a | a
      · exact Or.inl ⟨n + 1, by omega, a⟩
      · cases n with
        | zero => exact Or.inl ⟨1, by omega, (show par k = j from a).symm⟩
        | succ n =>
          obtain ⟨x, x1, x2, x3⟩ := an_child a
          obtain ⟨y1, y2, -, y4⟩ := an_in hp h5 h6 hj x1
          by_cases z : x = k
          · exact Or.inr (Or.inl ⟨n, z ▸ x1⟩)
          · have d := sb x k x2 (by omega) y4 hk x3 z
            rcases Nat.lt_or_gt_of_ne d with lt | lt
            · have := num_B h6 x2 y4 (show 1 ≤ k by omega) hk x3 lt
              exact Or.inr (Or.inr (Or.inl (by omega)))
            · have := num_B h6 (show 1 ≤ k by omega) hk x2 y4 x3.symm lt
              exact Or.inr (Or.inr (Or.inr (by omega)))
      · exact Or.inr (Or.inr (Or.inl (by omega)))
      · exact Or.inr (Or.inr (Or.inr (by omega)))
    intro j k h hj hk
    rcases Nat.lt_trichotomy j k with z | z | z
    · exact step j k z h hj hk
    · exact Or.inl ⟨0, z⟩
    · rcases step k j z (by omega) hk hj with a | a | a | a
      · exact Or.inr (Or.inl a)
      · exact Or.inl a
      · exact Or.inr (Or.inr (Or.inr a))
      · exact Or.inr (Or.inr (Or.inl a))
theorem num_inj (hp : ∀ j, 1 ≤ j → j < c → par j < j) (sb : Sib c par lst) (h5 : O5 c par wt) (h6 : O6 c par lst wt num) {j k : Nat} (hj : j < c) (hk : k < c) (e : num j = num k) : j = k := Classical.byContradiction fun n => by
  have a := (num_le hp h5 h6 hj).2
  have b := (num_le hp h5 h6 hk).2
  rcases num_tri hp sb h5 h6 _ j k (Nat.le_refl _) hj hk with ⟨m, z⟩ | ⟨m, z⟩ | z | z
  · have := (an_in hp h5 h6 hk z).2.2.1 n; omega
  · have := (an_in hp h5 h6 hj z).2.2.1 (fun k => n k.symm); omega
  · omega
  · omega
end
section
variable {E : Nat → Prop} {I : Nat → Nat → Prop} {fe se ho kq : Nat → Int32} {sl ct e0 r : Nat} {M : Nat → Nat → Prop} {row above sideUp number least weight : Nat → Int32} {c : Nat} {P T par lst wt num : Nat → Nat}
theorem O1.sib (F : FP E I 100 (fun s => s) fe se ho kq sl ct M) (O : O1 ho sl ct e0 r M c P T par) (h4 : O4 E M c T lst) : Sib c par lst := fun j k j1 k1 hj hk e n le => by
  have c98 := F.ct98
  obtain ⟨o1, o2, o3, o4, o5, o6⟩ := O
  obtain ⟨a1, a2, a3, a4, a5⟩ := o4 j j1 hj
  obtain ⟨b1, b2, b3, b4, b5⟩ := o4 k k1 hk
  have pj := (o1 j hj).1
  have pk := (o1 k hk).1
  have pp := (o1 (par j) (by omega)).1
  obtain ⟨x1, x2, -⟩ := h4 j hj
  obtain ⟨y1, y2, -⟩ := h4 k hk
  obtain ⟨-, -, -, -, m1⟩ := F.other (by omega) a2 a1
  obtain ⟨-, -, -, -, m2⟩ := F.other (by omega) b2 b1
  have u1 : M (ptb 100 (T j)) (lst j) := (m1 _ x1).mpr (x2.resolve_left (by omega))
  have u2 : M (ptb 100 (T k)) (lst j) := by rw [le]; exact (m2 _ y1).mpr (y2.resolve_left (by omega))
  rw [← e] at b5
  have := F.uni (by omega) a5 b5 x1 u1 u2
  have h1 := (ptb_inv a1).2.1
  have h2 := (ptb_inv b1).2.1
  have tt : T j = T k := by rw [← h1, this, h2]
  rw [tt] at a2
  exact n (o2 j k hj hk (Tp_uni a2 b2 (by omega) (by omega)))
/-- the numbers, from least edges and weights -/
theorem sp_numbers {post : (Nat → Int32) → Prop} (F : FP E I 100 (fun s => s) fe se ho kq sl ct M) (O : O1 ho sl ct e0 r M c P T par) (h4 : O4 E M c T lst) (h5 : O5 c par wt) (hrow : ∀ j, j < c → row j = nI (P j)) (ha0 : above (P 0) = -1) (hab : ∀ j, 1 ≤ j → j < c → above (P j) = nI (P (par j))) (hlw : ∀ j, j < c → least (P j) = nI (lst j) ∧ weight (P j) = nI (wt j))
    (h : ∀ number num, (∀ j, j < c → number (P j) = nI (num j)) → O6 c par lst wt num → post number) :
    ∃ n, sL2 (fun (K_11 : Int32 → (Nat → Int32) → Prop) (i2_9 : Int32) (number_10 : Nat → Int32) => (nI c ≤ i2_9 → post number_10) ∧ (¬ nI c ≤ i2_9 → vp_in i2_9 98 ∧ vp_in i2_9 98 ∧ wp_Order_numberFor row above number_10 least weight (nI c) (row (ix i2_9)) (fun r_14 => vp_in (row (ix i2_9)) 98 ∧ ∀ number_15 : Nat → Int32, number_15 = upd number_10 (ix (row (ix i2_9))) r_14 → K_11 (i2_9 + 1) number_15))) n 0 number := by
  have c98 := F.ct98
  obtain ⟨o1, o2, o3, o4, o5, o6⟩ := id O
  have cc : c ≤ ct := pig (f := P) (fun j hj => (o1 j hj).1) o2
  have hp : ∀ j, 1 ≤ j → j < c → par j < j := fun j a b => (o4 j a b).2.2.2.1
  have wle : ∀ j, j < c → wt j ≤ c := by
    intro j
    induction j using Nat.strongRecOn with
    | ind j ih =>
      intro hj
      by_cases z : j = 0
      · rw [z, h5.2]; omega
      · have pj := hp j (by omega) hj
        have a := ih (par j) pj (by omega)
        have b := h5.1 (par j) (by omega)
        have g : pr (1 ≤ j ∧ par j = par j) * wt j ≤ chs c par wt (par j) := sumN_ge (g := fun m => pr (1 ≤ m ∧ par m = par j) * wt m) c hj
        rw [pr_t ⟨by omega, rfl⟩, Nat.one_mul] at g
        omega
  have sle : ∀ j k, k ≤ c → sumN k (fun m => pr (1 ≤ m ∧ par m = par j ∧ lst m < lst j) * wt m) ≤ 98 * 98 := fun j k hk => by
    have : sumN k (fun m => pr (1 ≤ m ∧ par m = par j ∧ lst m < lst j) * wt m) ≤ sumN k (fun _ => 98) := sumN_le k fun m hm => by
      have a := pr_le (1 ≤ m ∧ par m = par j ∧ lst m < lst j)
      have b := wle m (by omega)
      have : pr (1 ≤ m ∧ par m = par j ∧ lst m < lst j) * wt m ≤ 1 * wt m := Nat.mul_le_mul_right _ a
      omega
    rw [sumN_const] at this
    have : 98 * k ≤ 98 * 98 := Nat.mul_le_mul_left _ (by omega)
    omega
  have e100 : ∀ j, j < c → lst j < 100 := fun j hj => by
    obtain ⟨a, -⟩ := h4 j hj
    obtain ⟨s, hs, -, es⟩ := F.1.2.2.2.2.2.2.2.2.2 _ a
    have : s = lst j := es
    omega
  refine for2 c (fun i nb => ∀ j, j < i → nb (P j) = nI (en nb (P j)) ∧ en nb (P j) ≤ 10000 * j ∧ (j = 0 → en nb (P j) = 0) ∧ (1 ≤ j → en nb (P j) = en nb (P (par j)) + 1 + les c par lst wt j)) (by omega) 0 number (by omega) (fun j k => absurd k (by omega)) (fun K i nb hi hJ nx => ⟨fun q => ?_, fun q => ?_⟩)
  · rw [zI_le (by omega) (by omega)] at q
    have : i = c := by omega
    subst this
    exact h nb (fun j => en nb (P j)) (fun j hj => (hJ j hj).1) ⟨(hJ 0 (by omega)).2.2.1 rfl, fun j a b => (hJ j b).2.2.2 a⟩
  · rw [zI_le (by omega) (by omega)] at q
    have hc : i < c := by omega
    have pi := (o1 i hc).1
    have ii : vp_in (nI i) 98 := (in_nI (by omega)).mpr (by omega)
    have ip : vp_in (nI (P i)) 98 := (in_nI (by omega)).mpr (by omega)
    rw [zI_succ, ix_nI (k := i) (by omega), hrow i hc, ix_nI (k := P i) (by omega)]
    have put : ∀ x, x ≤ 10000 * i → (i = 0 → x = 0) → (1 ≤ i → x = en nb (P (par i)) + 1 + les c par lst wt i) → ∀ nb' : Nat → Int32, nb' = upd nb (P i) (nI x) → K (nI (i + 1)) nb' := fun x hx x0 x1 nb' e => by
      have same : ∀ j, j < i → en nb' (P j) = en nb (P j) ∧ nb' (P j) = nb (P j) := fun j hj => by
        have n : P j ≠ P i := fun k => by have := o2 j i (by omega) hc k; omega
        unfold en
        rw [e, upd_ne n]; exact ⟨rfl, rfl⟩
      have here : nb' (P i) = nI x ∧ en nb' (P i) = x := by
        unfold en
        rw [e, upd_at, ix_nI (by omega)]; exact ⟨rfl, rfl⟩
      refine nx (by omega) _ fun j hj => ?_
      by_cases z : j = i
      · rw [z, here.2]
        refine ⟨here.1, hx, x0, fun k => ?_⟩
        rw [(same (par i) (hp i k hc)).1]; exact x1 k
      · obtain ⟨s1, s2⟩ := same j (by omega)
        rw [s1, s2]
        obtain ⟨k1, k2, k3, k4⟩ := hJ j (by omega)
        refine ⟨k1, k2, k3, fun y => ?_⟩
        have pj := hp j y (by omega)
        rw [(same (par j) (by omega)).1]; exact k4 y
    unfold wp_Order_numberFor
    rw [ix_nI (k := P i) (by omega)]
    by_cases z : i = 0
    · subst z
      rw [ha0]
      exact ⟨ii, ii, ip, fun y => absurd rfl y, fun _ => ⟨ip, fun nb' e => put 0 (by omega) (fun _ => rfl) (fun y => by omega) nb' e⟩⟩
    · have p1 := hp i (by omega) hc
      have pp := (o1 (par i) (by omega)).1
      obtain ⟨k1, k2, k3, k4⟩ := hJ (par i) (by omega)
      rw [hab i (by omega) hc, ix_nI (k := P (par i)) (by omega), k1, zI_succ]
      have mono : 10000 * par i + 10000 ≤ 10000 * i := by omega
      refine ⟨ii, ii, ip, fun _ => ⟨(in_nI (by omega)).mpr (by omega), ?_⟩, fun y => absurd y (zI_ne (by omega))⟩
      refine for2b c (fun k a => 1 ≤ k ∧ a = nI (en nb (P (par i)) + 1 + sumN k (fun m => pr (1 ≤ m ∧ par m = par i ∧ lst m < lst i) * wt m))) (by omega) 1 _ (by omega) ⟨Nat.le_refl _, ?_⟩ (fun K2 k a hk ⟨k1, ea⟩ nx2 => ⟨fun q2 => ?_, fun q2 => ?_⟩)
      · have : sumN 1 (fun m => pr (1 ≤ m ∧ par m = par i ∧ lst m < lst i) * wt m) = 0 := sumN_zero 1 fun m hm => by
          rw [pr_f (fun y => absurd y.1 (by omega)), Nat.zero_mul]
        rw [this]
      · rw [zI_le (by omega) (by omega)] at q2
        have : k = c := by omega
        subst this
        have s := sle i k (Nat.le_refl _)
        refine ⟨ip, fun nb' e => put (en nb (P (par i)) + 1 + les k par lst wt i) ?_ (fun y => absurd y z) (fun _ => rfl) nb' ?_⟩
        · unfold les; omega
        · rw [e, ea]; rfl
      · rw [zI_le (by omega) (by omega)] at q2
        have kc : k < c := by omega
        have pk := (o1 k kc).1
        have ik : vp_in (nI (P k)) 98 := (in_nI (by omega)).mpr (by omega)
        have pkk := hp k k1 kc
        have ppk := (o1 (par k) (by omega)).1
        obtain ⟨l1, w1⟩ := hlw k kc
        obtain ⟨l2, -⟩ := hlw i hc
        have a1 := e100 k kc
        have a2 := e100 i hc
        rw [zI_succ, ix_nI (k := k) (by omega), hrow k kc, ix_nI (k := P k) (by omega), hab k k1 kc, l1, l2, w1, zI_eq (by omega) (by omega), zI_le (by omega) (by omega)]
        have pe : P (par k) = P (par i) ↔ par k = par i := ⟨fun y => o2 _ _ (by omega) (by omega) y, fun y => by rw [y]⟩
        rw [pe]
        refine ⟨(in_nI (by omega)).mpr (by omega), ik, fun y => nx2 (by omega) _ ⟨by omega, ?_⟩, fun y => ⟨ik, ip, fun t => nx2 (by omega) _ ⟨by omega, ?_⟩, fun t => ⟨ik, nx2 (by omega) _ ⟨by omega, ?_⟩⟩⟩⟩
        · rw [ea]
          congr 1
          show _ = _ + 1 + (sumN k _ + pr (1 ≤ k ∧ par k = par i ∧ lst k < lst i) * wt k)
          rw [pr_f (fun s => y s.2.1), Nat.zero_mul]; rfl
        · rw [ea]
          congr 1
          show _ = _ + 1 + (sumN k _ + pr (1 ≤ k ∧ par k = par i ∧ lst k < lst i) * wt k)
          rw [pr_f (fun s => by omega), Nat.zero_mul]; rfl
        · rw [ea, zI_add]
          congr 1
          show _ = _ + 1 + (sumN k _ + pr (1 ≤ k ∧ par k = par i ∧ lst k < lst i) * wt k)
          rw [pr_t ⟨k1, y, by omega⟩, Nat.one_mul]; omega
end
