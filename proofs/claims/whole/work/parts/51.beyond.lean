/-! PURE PART XXV: the reference looks beyond its joints -/
theorem sumN_lt {g k : Nat → Nat} {i : Nat} : ∀ n : Nat, (∀ j, j < n → g j ≤ k j) → i < n → g i < k i → sumN n g < sumN n k
  | 0, _, h, _ => absurd h (Nat.not_lt_zero _)
  | n + 1, h, hi, lt => by
    show sumN n g + g n < sumN n k + k n
    by_cases z : i = n
    · subst z
      have := sumN_le (g := g) (k := k) i (fun j hj => h j (by omega))
      omega
    · have := sumN_lt (g := g) (k := k) (i := i) n (fun j hj => h j (by omega)) (by omega) lt
      have := h n (by omega)
      omega
section
variable {E : Nat → Prop} {I : Nat → Nat → Prop} {b : Nat} {w : Nat → Nat} {one two what piece kinds : Nat → Int32} {sl ct : Nat} {M : Nat → Nat → Prop}
/-- what beyonds holds on the way: edges beyond the slot, or 100 -/
def BV (E : Nat → Prop) (piece : Nat → Int32) (sl b : Nat) (w : Nat → Nat) (M : Nat → Nat → Prop) (be : Nat → Int32) (x : Nat → Nat) : Prop :=
  (∀ i, i < sl → be i = nI (x i) ∧ x i ≤ 100) ∧ (∀ i, livS piece sl i → x i < 100 → E (x i) ∧ M i (x i)) ∧ ∀ i, i < b → x i = w i
def NI (piece : Nat → Int32) (sl b : Nat) (x : Nat → Nat) (i k : Nat) : Prop := ∀ q, q < 98 → b ≤ i → livS piece sl i → Tp piece sl q (ptb b i) → Tp piece sl q k → k ≠ ptb b i → x i ≤ x k
/-- the least edge beyond each slot -/
def LBy (E : Nat → Prop) (piece : Nat → Int32) (sl : Nat) (M : Nat → Nat → Prop) (be : Nat → Int32) : Prop := ∀ i, livS piece sl i → ∃ l, l < 100 ∧ be i = nI l ∧ E l ∧ M i l ∧ ∀ e, E e → M i e → l ≤ e
theorem BV.done (F : FP E I b w one two piece kinds sl ct M) (g : Gr E I) {be : Nat → Int32} {x : Nat → Nat} (B : BV E piece sl b w M be x) (ni : ∀ i, i < sl → ∀ k, k < sl → NI piece sl b x i k) : LBy E piece sl M be := by
  have c98 := F.ct98
  obtain ⟨b1, b2, b3⟩ := B
  have low : ∀ n i, livS piece sl i → cnt 100 (fun e => E e ∧ M i e) ≤ n → ∀ e, E e → M i e → x i ≤ e := by
    intro n
    induction n with
    | zero =>
      intro i li hn e he me
      exact absurd ⟨he, me⟩ (cnt_zero (n := 100) (P := fun e => E e ∧ M i e) (by omega) (g.1 e he))
    | succ n ih =>
      intro i li hn e he me
      obtain ⟨p, hp, ti⟩ := F.pc li
      by_cases z : i < b
      · rw [b3 i z, ((F.edge (by omega) ti z).2 e he).mp me]; omega
      · obtain ⟨q, hq, tq, qp, mc⟩ := F.other (by omega) ti (by omega)
        obtain ⟨k, tk, mk⟩ := F.cov (by omega) tq he
        have kn : k ≠ ptb b i := fun y => (mc e he).mp (y ▸ mk) me
        have lk := F.lv tk (by omega)
        have inM : ∀ s, Tp piece sl q s → s ≠ ptb b i → ∀ e, E e → M s e → M i e := fun s ts sn e he ms => Classical.byContradiction fun y =>
          sn (F.uni (by omega) ts tq he ms ((mc e he).mpr y))
        have : ∃ r, Tp piece sl q r ∧ r ≠ k ∧ r ≠ ptb b i := by
          obtain ⟨u, v, tu, tv, un, vn, uv⟩ := F.three (by omega) tq
          by_cases y : u = k
          · exact ⟨v, tv, fun t => uv (y.trans t.symm), vn⟩
          · exact ⟨u, tu, y, un⟩
        obtain ⟨r, tr, rk, rn⟩ := this
        obtain ⟨e', he', me'⟩ := F.some (by omega) tr
        have lt := cnt_lt (n := 100) (P := fun e => E e ∧ M k e) (Q := fun e => E e ∧ M i e) (fun e _ y => ⟨y.1, inM k tk kn e y.1 y.2⟩) (g.1 e' he') ⟨he', inM r tr rn e' he' me'⟩ (fun y => rk (F.uni (by omega) tr tk he' me' y.2))
        have a := ih k lk (by omega) e he mk
        have c := ni i li.1 k tk.1 q (by omega) (by omega) li tq tk kn
        omega
  intro i li
  obtain ⟨e, he, me⟩ := F.1.2.2.2.1 i li
  have le := low _ i li (Nat.le_refl _) e he me
  have := g.1 e he
  obtain ⟨c1, c2⟩ := b2 i li (by omega)
  exact ⟨x i, by omega, (b1 i li.1).1, c1, c2, fun e he me => low _ i li (Nat.le_refl _) e he me⟩
theorem sp_lookBeyond {partner beyonds : Nat → Int32} {post : (Nat → Int32) → (Nat → Int32) → Prop} (F : FP E I b w one two piece kinds sl ct M) (g : Gr E I) (W : WA b w what ct) (h : ∀ pa be, (∀ i, b ≤ i → i < sl → pa i = nI (ptb b i)) → LBy E piece sl M be → post pa be) : wp_Model_lookBeyond (nI sl) what piece (nI (ct - 1)) partner beyonds post := by
  have c98 := F.ct98
  have l294 := F.sl294
  have ln := F.len
  have c1 := F.ct1
  have b100 := F.b100
  have wneg : ∀ i, b ≤ i → i < sl → ¬ (0 : Int32) ≤ what i := fun i hb hi => by
    have p := W.2 ((i - b) / 2) (by omega)
    have cs : i = b + 2 * ((i - b) / 2) ∨ i = b + 2 * ((i - b) / 2) + 1 := by omega
    have : what i = (-1) - nI ((i - b) / 2) := by
      rcases cs with e | e
      · rw [← e] at p; exact p.1
      · rw [← e] at p; exact p.2
    rw [this]; exact ng_lt (by omega)
  have wpos : ∀ i, i < b → (0 : Int32) ≤ what i := fun i hi => by
    obtain ⟨e1, e2⟩ := W.1 i hi
    rw [e1, L0, zI_le (by omega) (by omega)]; omega
  unfold wp_Model_lookBeyond
  refine for2 (ct - 1) (fun k pa => ∀ m, m < k → pa (b + 2 * m) = nI (b + 2 * m + 1) ∧ pa (b + 2 * m + 1) = nI (b + 2 * m)) (by omega) 0 partner (by omega) (fun m k => absurd k (by omega)) (fun K k pa hk hJ nx => ⟨fun q => ?_, fun q => ?_⟩)
  rotate_left
  · rw [zI_le (by omega) (by omega)] at q
    refine sp_itemOf W b100 c98 (by omega) (sp_itemOf2 W b100 c98 (by omega) ?_)
    rw [ix_nI (by omega), ix_nI (by omega), zI_succ]
    refine ⟨(in_nI (by omega)).mpr (by omega), fun p1 e1 => ⟨(in_nI (by omega)).mpr (by omega), fun p2 e2 => nx (by omega) _ fun m hm => ?_⟩⟩
    by_cases z : m = k
    · subst z
      rw [e2, upd_ne (by omega), e1, upd_at, upd_at]
      exact ⟨rfl, rfl⟩
    · rw [e2, upd_ne (by omega), upd_ne (by omega), e1, upd_ne (by omega), upd_ne (by omega)]
      exact hJ m (by omega)
  rw [zI_le (by omega) (by omega)] at q
  have hpa : ∀ i, b ≤ i → i < sl → pa i = nI (ptb b i) := fun i hb hi => by
    have p := hJ ((i - b) / 2) (by omega)
    unfold ptb
    by_cases z : (i - b) % 2 = 0
    · rw [if_pos z]
      have e : b + 2 * ((i - b) / 2) = i := by omega
      rw [e] at p; exact p.1
    · rw [if_neg z]
      have e : b + 2 * ((i - b) / 2) + 1 = i := by omega
      have e' : b + 2 * ((i - b) / 2) = i - 1 := by omega
      rw [e, e'] at p; exact p.2
  clear hJ nx q
  refine for2 sl (fun k be => ∀ i, i < k → be i = nI (if i < b then w i else 100)) (by omega) 0 beyonds (by omega) (fun m k => absurd k (by omega)) (fun K k be hk hJ nx => ⟨fun q => ?_, fun q => ?_⟩)
  rotate_left
  · rw [zI_le (by omega) (by omega)] at q
    have ik : vp_in (nI k) 320 := (in_nI (by omega)).mpr (by omega)
    rw [ix_nI (by omega), zI_succ]
    refine ⟨ik, fun z => ⟨ik, ik, fun b1 e1 => nx (by omega) _ fun i hi => ?_⟩, fun z => ⟨ik, fun b1 e1 => nx (by omega) _ fun i hi => ?_⟩⟩
    · by_cases y : i = k
      · subst y
        have : i < b := Classical.byContradiction fun t => wneg i (by omega) (by omega) z
        rw [e1, upd_at, if_pos this]; exact (W.1 i this).1
      · rw [e1, upd_ne y]; exact hJ i (by omega)
    · by_cases y : i = k
      · subst y
        have : ¬ i < b := fun t => z (wpos i t)
        rw [e1, upd_at, if_neg this]; rfl
      · rw [e1, upd_ne y]; exact hJ i (by omega)
  rw [zI_le (by omega) (by omega)] at q
  have : k = sl := by omega
  subst this
  have B0 : BV E piece k b w M be (fun i => if i < b then w i else 100) := by
    refine ⟨fun i hi => ⟨hJ i hi, ?_⟩, fun i li lt => ?_, fun i hi => if_pos hi⟩
    · by_cases z : i < b
      · dsimp only; rw [if_pos z]; have := (W.1 i z).2; omega
      · dsimp only; rw [if_neg z]; omega
    · by_cases z : i < b
      · dsimp only; rw [if_pos z]
        obtain ⟨a1, a2⟩ := F.1.2.2.2.2.2.2.2.2.1 i li z
        exact ⟨a1, (a2 _ a1).mpr rfl⟩
      · dsimp only at lt; rw [if_neg z] at lt; omega
  refine sL2_of (fun m be => ∃ x, BV E piece k b w M be x ∧ (m = nI 1 ∨ (m = nI 0 ∧ ∀ i, i < k → ∀ j, j < k → NI piece k b x i j))) (fun m be => 2 * sumN k (fun j => ix (be j)) + ix m) ?_ _ _ ⟨_, B0, Or.inl rfl⟩
  clear B0 hJ nx q
  rintro K m be ⟨x0, B0, hm⟩ ih
  have sx : ∀ (be : Nat → Int32) (x : Nat → Nat), BV E piece k b w M be x → sumN k (fun j => ix (be j)) = sumN k x := fun be x B => sumN_congr k fun j hj => by
    have := B.1 j hj
    rw [this.1, ix_nI (by omega)]
  rcases hm with rfl | ⟨rfl, ni⟩
  rotate_left
  · exact ⟨fun _ => h pa be hpa (B0.done F g ni), fun z => absurd rfl z⟩
  refine ⟨fun z => absurd z (by decide), fun _ => ?_⟩
  have fin : ∀ (m : Int32) (be' : Nat → Int32) (x : Nat → Nat), BV E piece k b w M be' x → ((m = nI 0 ∧ sumN k x = sumN k x0 ∧ ∀ i, i < k → ∀ j, j < k → NI piece k b x i j) ∨ (m = nI 1 ∧ sumN k x < sumN k x0)) → K m be' := fun m be' x B hx => by
    rcases hx with ⟨rfl, e, ni⟩ | ⟨rfl, lt⟩
    · refine ih _ _ ⟨x, B, Or.inr ⟨rfl, ni⟩⟩ ?_
      rw [sx be' x B, sx be x0 B0, e, ix_nI (by omega), ix_nI (by omega)]; omega
    · refine ih _ _ ⟨x, B, Or.inl rfl⟩ ?_
      rw [sx be' x B, sx be x0 B0, ix_nI (by omega)]; omega
  refine for3b k (fun i m be => ∃ x, BV E piece k b w M be x ∧ ((m = nI 0 ∧ sumN k x = sumN k x0 ∧ ∀ i', i' < i → ∀ j, j < k → NI piece k b x i' j) ∨ (m = nI 1 ∧ sumN k x < sumN k x0))) (by omega) 0 0 be (by omega) ⟨x0, B0, Or.inl ⟨rfl, rfl, fun i k => absurd k (by omega)⟩⟩ ?_
  clear B0 ih
  rintro K2 i m be hi ⟨x, B, hx⟩ nx
  refine ⟨fun q => ?_, fun q => ?_⟩
  · rw [zI_le (by omega) (by omega)] at q
    have : i = k := by omega
    subst this
    exact fin m be x B hx
  · rw [zI_le (by omega) (by omega)] at q
    have ii : vp_in (nI i) 320 := (in_nI (by omega)).mpr (by omega)
    rw [zI_succ, ix_nI (by omega)]
    -- to the next i
    have out : ∀ (m : Int32) (be : Nat → Int32) (x : Nat → Nat), BV E piece k b w M be x → ((m = nI 0 ∧ sumN k x = sumN k x0 ∧ ∀ i', i' < i → ∀ j, j < k → NI piece k b x i' j) ∨ (m = nI 1 ∧ sumN k x < sumN k x0)) → (m = nI 0 → ∀ j, j < k → NI piece k b x i j) → K2 m (nI (i + 1)) be := fun m be x B hx hi => nx (by omega) _ _ ⟨x, B, hx.imp (fun ⟨a, c, d⟩ => ⟨a, c, fun i' hi' => by
      by_cases y : i' = i
      · rw [y]; exact hi a
      · exact d i' (by omega)⟩) id⟩
    refine for3b k (fun j m be => ∃ x, BV E piece k b w M be x ∧ ((m = nI 0 ∧ sumN k x = sumN k x0 ∧ ∀ i', i' < i → ∀ j, j < k → NI piece k b x i' j) ∨ (m = nI 1 ∧ sumN k x < sumN k x0)) ∧ (m = nI 0 → ∀ j', j' < j → NI piece k b x i j')) (by omega) 0 m be (by omega) ⟨x, B, hx, fun _ j k => absurd k (by omega)⟩ ?_
    clear B hx x
    rintro K3 j m be hj ⟨x, B, hx, hi'⟩ nx3
    refine ⟨fun q2 => ?_, fun q2 => ?_⟩
    · rw [zI_le (by omega) (by omega)] at q2
      have : j = k := by omega
      subst this
      exact out m be x B hx hi'
    · rw [zI_le (by omega) (by omega)] at q2
      have ij : vp_in (nI j) 320 := (in_nI (by omega)).mpr (by omega)
      refine ⟨ii, fun z => out m be x B hx fun _ j' _ q _ hb => ?_, fun z => ⟨ii, fun y => out m be x B hx fun _ j' _ q _ _ li => ?_, fun y => ⟨ij, ?_⟩⟩⟩
      · exact absurd z (wneg i hb (by omega))
      · obtain ⟨p, hp, tp⟩ := F.pc li
        rw [tp.2] at y
        exact absurd y (zI_nn (by omega))
      · have hb : b ≤ i := Classical.byContradiction fun t => z (wpos i (by omega))
        have li : livS piece k i := ⟨by omega, fun t => y (by rw [t]; decide)⟩
        obtain ⟨p, hp, tp⟩ := F.pc li
        obtain ⟨q', hq', tq', -, mc⟩ := F.other (by omega) tp hb
        have pl := tq'.1
        unfold wp_Model_beyond
        rw [zI_succ, ix_nI (k := i) (by omega), hpa i hb (by omega), ix_nI (k := ptb b i) (by omega), tq'.2, ix_nI (k := j) (by omega), zI_eq (by omega) (by omega)]
        obtain ⟨x1, x2⟩ := B.1 i (by omega)
        obtain ⟨y1, y2⟩ := B.1 j (by omega)
        have skip : (∀ q, q < 98 → Tp piece k q (ptb b i) → Tp piece k q j → j ≠ ptb b i → x i ≤ x j) → K3 m (nI (j + 1)) be := fun t => nx3 (by omega) _ _ ⟨x, B, hx, fun e j' hj' => by
          by_cases s : j' = j
          · subst s; exact fun q a _ _ c d e => t q a c d e
          · exact hi' e j' (by omega)⟩
        rw [x1, y1, zI_le (by omega) (by omega)]
        refine ⟨ii, (in_nI (by omega)).mpr (by omega), fun t => skip fun q hq c d _ => absurd (by rw [d.2, Tp_uni c tq' (by omega) (by omega)]) t, fun t => ⟨ii, fun s => skip fun q _ _ _ e => absurd s e, fun s => ⟨ij, ii, fun u => skip fun _ _ _ _ _ => u, fun u => ⟨ij, ii, fun be' eb => ?_⟩⟩⟩⟩
        -- a lesser edge
        have tj : Tp piece k q' j := ⟨by omega, t⟩
        have lj := F.lv tj (by omega)
        obtain ⟨u1, u2⟩ := B.2.1 j lj (by omega)
        have mi : M i (x j) := Classical.byContradiction fun n => s (F.uni (by omega) tj tq' u1 u2 ((mc _ u1).mpr n))
        have lt : sumN k (fun j' => if j' = i then x j else x j') < sumN k x := sumN_lt (i := i) k (fun j' _ => by
          by_cases v : j' = i
          · rw [if_pos v, v]; omega
          · rw [if_neg v]; omega) (by omega) (by rw [if_pos rfl]; omega)
        refine nx3 (by omega) _ _ ⟨fun j' => if j' = i then x j else x j', ⟨fun a ha => ?_, fun a la => ?_, fun a ha => ?_⟩, Or.inr ⟨rfl, ?_⟩, fun e => absurd e (by decide)⟩
        · by_cases v : a = i
          · rw [eb, v, upd_at]; dsimp only; rw [if_pos rfl]; exact ⟨rfl, y2⟩
          · rw [eb, upd_ne v]; dsimp only; rw [if_neg v]; exact B.1 a ha
        · by_cases v : a = i
          · dsimp only; rw [if_pos v, v]; exact fun _ => ⟨u1, mi⟩
          · dsimp only; rw [if_neg v]; exact B.2.1 a la
        · dsimp only; rw [if_neg (by omega)]; exact B.2.2 a ha
        · rcases hx with ⟨-, e, -⟩ | ⟨-, e⟩ <;> omega
end
