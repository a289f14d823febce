/-! PURE PART XVII: the reference puts pieces together; how both begin; fit graphs -/
theorem ng_toInt {k : Nat} (h : k < 2147483648) : ((-1 : Int32) - nI k).toInt = -1 - (k : Int) := by
  rw [Int32.toInt_sub, n1_toInt, zI_toInt h]
  exact Int.bmod_eq_of_le (by omega) (by omega)
theorem ng_eq {j k : Nat} (hj : j < 2147483648) (hk : k < 2147483648) : (-1 : Int32) - nI j = (-1) - nI k ↔ j = k := by
  rw [← Int32.toInt_inj, ng_toInt hj, ng_toInt hk]; omega
theorem ng_ne {j k : Nat} (hj : j < 2147483648) (hk : k < 2147483648) : nI j ≠ (-1 : Int32) - nI k := fun e => by
  rw [← Int32.toInt_inj, ng_toInt hk, zI_toInt hj] at e; omega
theorem ng_lt {k : Nat} (hk : k < 2147483648) : ¬ (0 : Int32) ≤ (-1) - nI k := by
  rw [Int32.le_iff_toInt_le, ng_toInt hk, Int32.toInt_zero]; omega
def WA (b : Nat) (w : Nat → Nat) (what : Nat → Int32) (ct : Nat) : Prop := (∀ s, s < b → what s = nI (w s) ∧ w s < 100) ∧ ∀ k, k + 1 < ct → what (b + 2 * k) = (-1) - nI k ∧ what (b + 2 * k + 1) = (-1) - nI k
section
variable {E : Nat → Prop} {I : Nat → Nat → Prop} {b : Nat} {w : Nat → Nat} {one two what piece kinds : Nat → Int32} {sl ct k : Nat} {κ : Nat → Int}
theorem WA.at (W : WA b w what ct) (hb : b ≤ 100) (hc : ct ≤ 98) (hk : k + 1 < ct) {a : Nat} (ha : a ≤ b + 2 * k + 1) : what a = (-1) - nI k ↔ a = b + 2 * k ∨ a = b + 2 * k + 1 := by
  constructor
  · intro e
    by_cases z : a < b
    · obtain ⟨e1, e2⟩ := W.1 a z
      rw [e1] at e
      exact absurd e (ng_ne (by omega) (by omega))
    · have p := W.2 ((a - b) / 2) (by omega)
      have c : a = b + 2 * ((a - b) / 2) ∨ a = b + 2 * ((a - b) / 2) + 1 := by omega
      have : what a = (-1) - nI ((a - b) / 2) := by
        rcases c with c | c
        · rw [← c] at p; exact p.1
        · rw [← c] at p; exact p.2
      rw [this, ng_eq (by omega) (by omega)] at e
      omega
  · rintro (rfl | rfl)
    · exact (W.2 k hk).1
    · exact (W.2 k hk).2
theorem sp_itemOf {post : Int32 → Prop} (W : WA b w what ct) (hb : b ≤ 100) (hc : ct ≤ 98) (hk : k + 1 < ct) (h : post (nI (b + 2 * k))) : wp_Model_itemOf what (nI k) (-1) post := by
  unfold wp_Model_itemOf
  refine for1 (b + 2 * k) (fun a => True) (by omega) 0 (by omega) trivial (fun K a ha _ nx => ?_)
  rw [ix_nI (by omega), W.at hb hc hk (by omega), zI_succ]
  refine ⟨(in_nI (by omega)).mpr (by omega), fun z => ?_, fun z => nx (by omega) () trivial⟩
  have : a = b + 2 * k := by omega
  rw [this]; exact h
theorem sp_itemOf2 {post : Int32 → Prop} (W : WA b w what ct) (hb : b ≤ 100) (hc : ct ≤ 98) (hk : k + 1 < ct) (h : post (nI (b + 2 * k + 1))) : wp_Model_itemOf what (nI k) (nI (b + 2 * k)) post := by
  unfold wp_Model_itemOf
  rw [zI_succ]
  refine for1 (b + 2 * k + 1) (fun a => b + 2 * k + 1 ≤ a) (by omega) (b + 2 * k + 1) (by omega) (Nat.le_refl _) (fun K a ha hJ nx => ?_)
  rw [ix_nI (by omega), W.at hb hc hk (by omega), zI_succ]
  refine ⟨(in_nI (by omega)).mpr (by omega), fun z => ?_, fun z => absurd (by omega) z⟩
  have : a = b + 2 * k + 1 := by omega
  rw [this]; exact h
theorem sp_putTogether {post : (Nat → Int32) → Prop} (W : WA b w what ct) (P : MP E I b w one two kinds κ sl ct b piece) (h : ∀ piece' M, FP E I b w one two piece' kinds sl ct M → post piece') : wp_Model_putTogether (nI sl) what piece (nI (ct - 1)) kinds post := by
  obtain ⟨-, -, -, -, -, -, -, -, ln, ct1, b100, c98⟩ := id P
  unfold wp_Model_putTogether
  refine for2 (ct - 1) (fun k pc => MP E I b w one two kinds κ sl ct (b + 2 * k) pc) (by omega) 0 piece (by omega) P (fun K k pc hk P nx => ⟨fun z => ?_, fun z => ?_⟩)
  · rw [zI_le (by omega) (by omega)] at z
    have : b + 2 * k = sl := by omega
    rw [this] at P
    obtain ⟨M, F⟩ := P.done
    exact h _ M F
  · rw [zI_le (by omega) (by omega)] at z
    obtain ⟨M, m1, m2, m3, m4, m5, m6, m7, -⟩ := id P
    have l0 := m5 (b + 2 * k) (by omega) (Nat.le_refl _) (by omega)
    have l1 := m5 (b + 2 * k + 1) (by omega) (by omega) (by omega)
    obtain ⟨p, hp, ep⟩ := m4 _ l0
    obtain ⟨q, hq, eq⟩ := m4 _ l1
    refine sp_itemOf W b100 c98 (by omega) (sp_itemOf2 W b100 c98 (by omega) ?_)
    have i0 : vp_in (nI (b + 2 * k)) 320 := (in_nI (by omega)).mpr (by omega)
    have i1 : vp_in (nI (b + 2 * k + 1)) 320 := (in_nI (by omega)).mpr (by omega)
    have ip : vp_in (nI p) 110 := (in_nI (by omega)).mpr (by omega)
    have iq : vp_in (nI q) 110 := (in_nI (by omega)).mpr (by omega)
    rw [zI_succ, ix_nI (by omega), ix_nI (by omega), ep, eq, ix_nI (by omega), ix_nI (by omega)]
    have kp := m3 _ l0
    have kq' := m3 _ l1
    rw [kdf_nI (by omega) ep] at kp
    rw [kdf_nI (by omega) eq] at kq'
    have keq : kinds p = kinds q ↔ κ (b + 2 * k) = κ (b + 2 * k + 1) := by rw [← Int32.toInt_inj, kp, kq']
    have k3 : κ (b + 2 * k) = 0 ∨ κ (b + 2 * k) = 1 ∨ κ (b + 2 * k) = 2 := by
      rw [← m3 _ l0]
      rcases m2 _ l0 with ⟨a, -⟩ | ⟨a, -⟩ | ⟨a, -⟩ <;> omega
    have k2 : (2 : Int32) ≤ kinds p ↔ κ (b + 2 * k) = 2 := by
      rw [Int32.le_iff_toInt_le, kp]
      have : (2 : Int32).toInt = 2 := by decide
      omega
    have ng : ¬ (κ (b + 2 * k) = κ (b + 2 * k + 1) ∧ κ (b + 2 * k) ≠ 2) → K (nI (k + 1)) pc := fun n => nx (by omega) _ (P.keep (j := b + 2 * k) (by omega) (by omega) n)
    rw [keq, k2]
    refine ⟨i0, i1, ip, iq, fun a => ng fun y => a y.1, fun a => ⟨ip, fun c => ng fun y => y.2 c, fun c => ⟨i0, fun h8 e8 => ⟨i1, fun h10 e10 => ?_⟩⟩⟩⟩
    have pq : p ≠ q := fun e => by
      obtain ⟨-, c2, -⟩ := m1.2.2.2.2.2.2.1 _ l0 (by omega)
      rw [ptb, if_pos (by omega), (hm_nI (by omega)).mpr ep, (hm_nI (by omega)).mpr eq] at c2
      omega
    have v0 : h10 (b + 2 * k) = -1 := by rw [e10, upd_ne (by omega), e8, upd_at]
    have v1 : h10 (b + 2 * k + 1) = -1 := by rw [e10, upd_at]
    have v2 : ∀ s, s ≠ b + 2 * k → s ≠ b + 2 * k + 1 → h10 s = pc s := fun s a b => by rw [e10, upd_ne b, e8, upd_ne a]
    have nq : (-1 : Int32) ≠ nI q := fun e => zI_ne (by omega) e.symm
    refine for2 sl (fun n h' => (∀ s, s < n → h10 s = nI q → h' s = nI p) ∧ (∀ s, (n ≤ s ∨ h10 s ≠ nI q) → h' s = h10 s)) (by omega) 0 h10 (by omega) ⟨fun s k => absurd k (by omega), fun _ _ => rfl⟩ (fun K4 n h' hn hJ nx4 => ⟨fun z4 => ?_, fun z4 => ?_⟩)
    · rw [zI_le (by omega) (by omega)] at z4
      refine nx (by omega) _ (P.step (j := b + 2 * k) (p := p) (q := q) (by omega) (by omega) (by omega) a c ep eq hp hq ?_ ?_ (fun s a n1 n2 e => hJ.1 s (by omega) (by rw [v2 s n1 n2]; exact e)) (fun s a n1 n2 e => by rw [hJ.2 s (Or.inr (by rw [v2 s n1 n2]; exact e)), v2 s n1 n2]))
      · rw [hJ.2 _ (Or.inr (by rw [v0]; exact nq)), v0]
      · rw [hJ.2 _ (Or.inr (by rw [v1]; exact nq)), v1]
    · rw [zI_le (by omega) (by omega)] at z4
      have ik : vp_in (nI n) 320 := (in_nI (by omega)).mpr (by omega)
      rw [ix_nI (by omega), zI_succ]
      have hn0 : h' n = h10 n := hJ.2 n (Or.inl (Nat.le_refl _))
      rw [hn0]
      refine ⟨ik, fun y => ⟨ik, ik, fun h2 e2 => nx4 (by omega) _ ⟨fun s a c => ?_, fun s a => ?_⟩⟩, fun y => ⟨ik, fun h2 e2 => nx4 (by omega) _ ⟨fun s a c => ?_, fun s a => ?_⟩⟩⟩
      · have : s ≠ n := fun e => y (e ▸ c)
        rw [e2, upd_ne this]; exact hJ.1 s (by omega) c
      · by_cases t : s = n
        · rw [e2, t, upd_at]
        · rw [e2, upd_ne t]; exact hJ.2 s (a.imp (fun a => by omega) id)
      · by_cases t : s = n
        · rw [e2, t, upd_at]
        · rw [e2, upd_ne t]; exact hJ.1 s (by omega) c
      · by_cases t : s = n
        · subst t
          rcases a with a | a
          · omega
          · exact absurd y a
        · rw [e2, upd_ne t]; exact hJ.2 s (a.imp (fun a => by omega) id)
end
/-- the graph without the point z hangs together -/
def Con (E : Nat → Prop) (I : Nat → Nat → Prop) (z : Nat) : Prop := ∀ Y : Nat → Prop, (∀ e x y, E e → I e x → I e y → x ≠ z → y ≠ z → (∀ t, I e t → t ≠ z) → (Y x ↔ Y y)) → ∀ x y, (∃ e, E e ∧ I e x) → (∃ e, E e ∧ I e y) → x ≠ z → y ≠ z → (Y x ↔ Y y)
def Fit (E : Nat → Prop) (I : Nat → Nat → Prop) : Prop := 3 ≤ cnt 100 E ∧ ∀ z, Con E I z
theorem Fit.two {E : Nat → Prop} {I : Nat → Nat → Prop} (g : Gr E I) (F : Fit E I) : Two E I := by
  intro X h1 h0
  refine Classical.byContradiction fun lt => ?_
  have : ∃ z, ∀ x, bdy E I X x → x = z := by
    by_cases k : ∃ z, bdy E I X z
    · obtain ⟨z, hz⟩ := k
      refine ⟨z, fun x hx => Classical.byContradiction fun n => lt ?_⟩
      exact cnt_ge2 (bdy_lt g hx) (bdy_lt g hz) n hx hz
    · exact ⟨0, fun x hx => absurd ⟨x, hx⟩ k⟩
  obtain ⟨z, hz⟩ := this
  obtain ⟨e, he, xe⟩ := h1
  obtain ⟨f, hf, xf⟩ := h0
  have other : ∀ e, E e → ∃ x, I e x ∧ x ≠ z := fun e he => by
    obtain ⟨p, q, -, -, pq, h⟩ := g.2 e he
    by_cases k : p = z
    · exact ⟨q, (h q).mpr (Or.inr rfl), fun k' => pq (k.trans k'.symm)⟩
    · exact ⟨p, (h p).mpr (Or.inl rfl), k⟩
  obtain ⟨x, ix, xz⟩ := other e he
  obtain ⟨y, iy, yz⟩ := other f hf
  have c := F.2 z (fun x => ∃ e, E e ∧ X e ∧ I e x) (fun e x y he ix iy xz yz _ => by
    have step : ∀ x y, I e x → I e y → x ≠ z → (∃ e, E e ∧ X e ∧ I e x) → ∃ e, E e ∧ X e ∧ I e y := fun x y ix iy xz ⟨f, hf, xf, jf⟩ => by
      have : X e := Classical.byContradiction fun k => xz (hz x ⟨⟨f, hf, xf, jf⟩, ⟨e, he, k, ix⟩⟩)
      exact ⟨e, he, this, iy⟩
    exact ⟨step x y ix iy xz, step y x iy ix yz⟩) x y ⟨e, he, ix⟩ ⟨f, hf, iy⟩ xz yz
  obtain ⟨e', he', xe', ie'⟩ := c.mp ⟨e, he, xe, ix⟩
  exact yz (hz y ⟨⟨e', he', xe', ie'⟩, ⟨f, hf, xf, iy⟩⟩)
/-- how both begin: every edge has a slot, and all lie in one piece -/
theorem CP.init {E : Nat → Prop} {I : Nat → Nat → Prop} {b : Nat} {w : Nat → Nat} {fe se ho : Nat → Int32} (g : Gr E I) (h2 : Two E I) (h3 : 3 ≤ cnt 100 E) (hb : b ≤ 100) (a0 : ∀ s, livS ho b s → ho s = nI 0) (a1 : ∀ s, livS ho b s → E (w s)) (a2 : ∀ s t, livS ho b s → livS ho b t → w s = w t → s = t) (a3 : ∀ e, E e → ∃ s, livS ho b s ∧ w s = e)
    (a4 : ∀ s, livS ho b s → fe s = nI (en fe s) ∧ se s = nI (en se s)) (a5 : ∀ s, livS ho b s → en fe s < 40 ∧ en se s < 40 ∧ en fe s ≠ en se s ∧ ∀ x, I (w s) x ↔ x = en fe s ∨ x = en se s) : CP E I b w fe se ho b 1 := by
  have three : ∀ e, E e → ∃ e1 e2, E e1 ∧ E e2 ∧ e1 ≠ e ∧ e2 ≠ e ∧ e1 ≠ e2 := fun e he => by
    have r := cnt_rem (g.1 e he) he
    obtain ⟨x, y, -, -, hx, hy, xy⟩ := cnt_ex2 (n := 100) (P := fun x => E x ∧ x ≠ e) (by omega)
    exact ⟨x, y, hx.1, hy.1, hx.2, hy.2, xy⟩
  have some : ∃ e, E e := by
    obtain ⟨e, -, he⟩ := cnt_some (n := 100) (P := E) (by omega)
    exact ⟨e, he⟩
  have hh : ∀ s t, livS ho b s → livS ho b t → hm ho s = hm ho t := fun s t hs ht => by unfold hm; rw [a0 s hs, a0 t ht]
  refine ⟨⟨fun s e => e = w s, fun s hs => by have := hs.1; omega, ?_, ?_, ?_, ?_, ?_, ?_, ?_, ?_, ?_⟩, a4, fun s hs => ⟨0, by omega, a0 s hs⟩, fun p hp => ?_, by omega, by omega, hb, by omega, fun s k1 k2 => by omega⟩
  · intro s t hs ht _ st e _ k1 k2
    exact st (a2 s t hs ht (k1.symm.trans k2))
  · intro s hs e he
    obtain ⟨t, ht, et⟩ := a3 e he
    exact ⟨t, ht, hh t s ht hs, et.symm⟩
  · exact fun s hs => ⟨w s, a1 s hs, rfl⟩
  · intro s hs
    obtain ⟨c1, c2, c3, c4⟩ := a5 s hs
    obtain ⟨e1, e2, he1, he2, n1, n2, n12⟩ := three _ (a1 s hs)
    refine ⟨c1, c2, c3, bdy_both g h2 ⟨w s, a1 s hs, rfl⟩ ⟨e1, he1, n1⟩ fun x k => ?_⟩
    obtain ⟨⟨e, he, ee, ie⟩, -⟩ := k
    have ee : e = w s := ee
    rw [ee] at ie
    exact (c4 x).mp ie
  · intro s hs
    obtain ⟨e1, e2, he1, he2, n1, n2, n12⟩ := three _ (a1 s hs)
    obtain ⟨t, ht, et⟩ := a3 e1 he1
    obtain ⟨r, hr, er⟩ := a3 e2 he2
    exact ⟨t, r, ht, hr, hh t s ht hs, hh r s hr hs, fun k => n1 (by rw [← et, k]), fun k => n2 (by rw [← er, k]), fun k => n12 (by rw [← et, ← er, k])⟩
  · intro s hs k
    exact absurd hs.1 (by omega)
  · intro s t hs ht k
    exact absurd (hh s t hs ht) k
  · exact fun s hs _ => ⟨a1 s hs, fun e _ => Iff.rfl⟩
  · intro e he
    obtain ⟨s, hs, es⟩ := a3 e he
    exact ⟨s, hs.1, hs, es⟩
  · obtain ⟨e, he⟩ := some
    obtain ⟨s, hs, -⟩ := a3 e he
    have : p = 0 := by omega
    exact ⟨s, hs.1, this ▸ a0 s hs⟩
theorem cnt_nth {P : Nat → Prop} : ∀ {n i : Nat}, i < cnt n P → ∃ x, x < n ∧ P x ∧ cnt x P = i
  | 0, i, h => absurd h (Nat.not_lt_zero i)
  | n + 1, i, h => by
    rw [cnt_succ] at h
    by_cases z : i < cnt n P
    · obtain ⟨x, hx, px, e⟩ := cnt_nth z
      exact ⟨x, by omega, px, e⟩
    · by_cases p : P n
      · rw [pr_t p] at h
        exact ⟨n, by omega, p, by omega⟩
      · rw [pr_f p] at h; omega
theorem cnt_step {P : Nat → Prop} {x y : Nat} (h : x < y) (p : P x) : cnt x P < cnt y P := by
  induction y with
  | zero => omega
  | succ y ih =>
    rw [cnt_succ]
    by_cases z : x = y
    · subst z; rw [pr_t p]; omega
    · have := ih (by omega); omega
