/-! PURE PART XXXII: the law's case of an item -/
section
variable {what piece nu pa : Nat → Int32} {sl' ct' q b c n : Nat} {w rank : Nat → Nat} {an oe : Nat → Int32}
theorem sp_rankOf {k : Nat} {post : Int32 → Prop} (l : sl' ≤ 294) (c98 : c ≤ 98) (ct98 : ct' ≤ 98) (W : WA b w what ct') (b100 : b ≤ 100) (ln : sl' + 2 = b + 2 * ct') (r1 : ∀ k, Tp piece sl' q k → k < b → rank k = w k) (r2 : ∀ k, Tp piece sl' q k → b ≤ k → ∃ k' q' x, pa k = nI k' ∧ k' < sl' ∧ piece k' = nI q' ∧ q' < ct' ∧ nu q' = nI x ∧ x < c ∧ rank k = 100 + x) (tk : Tp piece sl' q k) (h : post (nI (rank k))) : wp_Model_rankOf what piece nu pa (nI k) post := by
  have kl := tk.1
  have ik : vp_in (nI k) 320 := (in_nI (by omega)).mpr (by omega)
  unfold wp_Model_rankOf wp_Model_beyond
  rw [ix_nI (k := k) (by omega)]
  refine ⟨ik, fun z => ?_, fun z => ⟨ik, ?_⟩⟩
  · have kb : b ≤ k := Classical.byContradiction fun y => by
      obtain ⟨e1, e2⟩ := W.1 k (by omega)
      rw [e1] at z
      exact zI_nn (by omega) z
    obtain ⟨k', q', x, e1, e2, e3, e4, e5, e6, e7⟩ := r2 k tk kb
    rw [e1, ix_nI (k := k') (by omega), e3]
    dsimp only
    rw [ix_nI (k := q') (by omega), e5, L100, zI_add, ← e7]
    exact ⟨ik, (in_nI (by omega)).mpr (by omega), (in_nI (by omega)).mpr (by omega), h⟩
  · have kb : k < b := Classical.byContradiction fun y => by
      have p := W.2 ((k - b) / 2) (by omega)
      have cs : k = b + 2 * ((k - b) / 2) ∨ k = b + 2 * ((k - b) / 2) + 1 := by omega
      have : what k = (-1) - nI ((k - b) / 2) := by
        rcases cs with e | e
        · rw [← e] at p; exact p.1
        · rw [← e] at p; exact p.2
      rw [this, Int32.lt_iff_toInt_lt, ng_toInt (by omega), Int32.toInt_zero] at z; omega
    rw [(W.1 k kb).1, ← r1 k tk kb]
    exact h
theorem rk_cnt (r3 : ∀ k, Tp piece sl' q k → Rk an oe c n (rank k)) (r4 : ∀ k k', Tp piece sl' q k → Tp piece sl' q k' → rank k = rank k' → k = k') (r5 : ∀ y, Rk an oe c n y → ∃ k, Tp piece sl' q k ∧ rank k = y) (y : Nat) : cnt sl' (fun z => Tp piece sl' q z ∧ rank z < y) = cnt y (Rk an oe c n) := by
  have a : cnt sl' (fun z => Tp piece sl' q z ∧ rank z < y) ≤ cnt y (Rk an oe c n) := cnt_inj (R := fun k z => Tp piece sl' q k ∧ rank k = z) sl' (fun k _ t => ⟨rank k, t.2, r3 k t.1, t.1, rfl⟩) (fun k k' z h h' => r4 k k' h.1 h'.1 (h.2.trans h'.2.symm))
  have b : cnt y (Rk an oe c n) ≤ cnt sl' (fun z => Tp piece sl' q z ∧ rank z < y) := cnt_inj (R := fun z k => rank k = z) y (fun z hz rz => by
    obtain ⟨k, tk, e⟩ := r5 z rz
    exact ⟨k, tk.1, ⟨tk, by omega⟩, e⟩) (fun z z' k h h' => h.symm.trans h')
  omega
end
section
variable {E : Nat → Prop} {I : Nat → Nat → Prop} {kn sn an ln gn : Nat → Int32} {iN : Nat → Int64} {oe : Nat → Int32} {nc built tree items : Int32} {one two what piece kinds : Nat → Int32} {nodes : Int32} {po nu up ju pa : Nat → Int32} {L : Nat} {xs : Nat → Int32} {i th : Int32} {o : Nat → Int64} {K : Int32 → (Nat → Int64) → Prop}
theorem law7 (S : ST E I kn sn an ln gn iN oe nc built tree items one two what piece kinds nodes po nu up ju pa) (hi : vp_in (i + 1) L) (hi2 : vp_in (i + 2) L) (hK : ∀ t o, K t o) : wp_Law_c7 L xs i sn an oe nc built th tree items what piece nodes po nu pa o K := by
  refine ⟨hi, hi2, ?_⟩
  rcases S.cases (xs (ix (i + 1))) with ⟨rfl, rfl⟩ | ⟨rfl, rfl, rfl, bad⟩ | ⟨rfl, rfl, n, c, sl', ct', hn, ex, rfl, rfl, rfl, g, h2, T⟩
  · exact ⟨fun z => absurd rfl z, fun _ => Or.inl ⟨rfl, hi, hi2, none_no ⟨fun z => absurd z (by decide), fun _ => law_ex (by decide) (hK _ _)⟩⟩⟩
  · exact ⟨fun _ => chk_bad bad (Or.inr ⟨rfl, hi, hi2, none_bad bad ⟨fun z => absurd z (by decide), fun _ => law_ex (by decide) (hK _ _)⟩⟩), fun z => absurd z (by decide)⟩
  · obtain ⟨c98, -, ct98, l294⟩ := T.c98
    obtain ⟨q, b, w, rank, hq, epo, esn, W, b100, lnn, r1, r2, r3, r4, r5⟩ := T.items g h2 hn
    rw [ex]
    generalize hx2 : xs (ix (i + 2)) = x2
    have i98 : vp_in (nI n) 98 := (in_nI (by omega)).mpr (by omega)
    have i110 : vp_in (nI n) 110 := (in_nI (by omega)).mpr (by omega)
    have x0 : vp_in 0 1 := (in_nI (k := 0) (by omega)).mpr (by omega)
    have xn : ix (nI n) = n := ix_nI (by omega)
    have cl := cnt_le sl' (Tp piece sl' q)
    refine ⟨fun _ => chk_ok hn c98 ⟨fun z => Or.inr ⟨rfl, hi, hi2, none_ok hn c98 ⟨fun _ => ⟨i110, fun _ => law_ex (by decide) (hK _ _), fun y => absurd z y⟩, fun z => absurd rfl z⟩⟩, fun z => ⟨i98, ?_⟩⟩, fun z => absurd z (by decide)⟩
    obtain ⟨e2, m31⟩ := zI_of z
    rw [xn, ← esn]
    refine ⟨fun y => ?_, fun y => Or.inr ⟨rfl, hi, hi2, none_ok hn c98 ⟨fun _ => ⟨i110, fun t => absurd t z, fun _ => ?_⟩, fun z => absurd rfl z⟩⟩⟩
    rotate_left
    · rw [xn, epo]
      refine sp_sizeOf (by omega) ⟨fun t => absurd t y, fun _ => law_ex (by decide) (hK _ _)⟩
    -- the item
    have ylt := y
    rw [e2, zI_lt m31 (by omega)] at y
    have all : cnt (100 + c) (Rk an oe c n) = cnt sl' (Tp piece sl' q) := by
      rw [← rk_cnt r3 r4 r5]
      refine cnt_congr fun k _ => ⟨fun t => t.1, fun t => ⟨t, ?_⟩⟩
      rcases r3 k t with s | s <;> omega
    obtain ⟨yy, hyy, ryy, cyy⟩ := cnt_nth (n := 100 + c) (P := Rk an oe c n) (i := ix x2) (by omega)
    rw [e2]
    refine sp_findItem c98 hn (by omega) ryy cyy ⟨x0, fun o1 eo => ⟨hi, hi2, none_ok hn c98 ⟨fun _ => ⟨i110, fun t => absurd t (zI_nn m31), fun _ => ?_⟩, fun z => absurd rfl z⟩⟩⟩
    rw [xn, epo]
    refine sp_sizeOf (by omega) ⟨fun _ => ?_, fun t => absurd ((zI_lt m31 (by omega)).mpr y) t⟩
    refine for1 sl' (fun k => ∀ k', k' < k → Tp piece sl' q k' → cnt (rank k') (Rk an oe c n) ≠ ix x2) (by omega) 0 (by omega) (fun k' k => absurd k (by omega)) (fun K1 k hk hJ nx => ⟨fun t => ?_, fun t => ?_⟩)
    · rw [zI_le (by omega) (by omega)] at t
      exfalso
      obtain ⟨k', tk', ek'⟩ := r5 yy ryy
      have := tk'.1
      exact hJ k' (by omega) tk' (by rw [ek']; exact cyy)
    · rw [zI_le (by omega) (by omega)] at t
      have ik : vp_in (nI k) 320 := (in_nI (by omega)).mpr (by omega)
      rw [ix_nI (k := k) (by omega), zI_succ]
      by_cases pk : piece k = nI q
      rotate_left
      · have go : K1 (nI (k + 1)) := nx (by omega) () fun k' h1 t1 => by
          have : k' ≠ k := fun s => pk (s ▸ t1.2)
          exact hJ k' (by omega) t1
        have C : vp_in (nI k) 320 ∧ (¬ piece k = nI q → K1 (nI (k + 1))) := ⟨ik, fun _ => go⟩
        exact ⟨1, fun _ => ⟨ik, fun _ => go, fun s => absurd s pk⟩, fun _ => ⟨ik, fun _ => ⟨ik, fun _ => go, fun s => absurd s pk⟩, fun s => absurd s pk⟩⟩
      · have tk : Tp piece sl' q k := ⟨by omega, pk⟩
        refine for2b sl' (fun j bf => bf = nI (cnt j (fun z => Tp piece sl' q z ∧ rank z < rank k))) (by omega) 0 0 (by omega) rfl (fun K2 j bf hj eb nx2 => ⟨fun s => ?_, fun s => ?_⟩)
        · rw [zI_le (by omega) (by omega)] at s
          have : j = sl' := by omega
          subst this
          have l := cnt_le j (fun z => Tp piece j q z ∧ rank z < rank k)
          rw [rk_cnt r3 r4 r5] at eb l
          rw [eb, zI_eq (by omega) m31]
          refine ⟨ik, fun u => absurd pk u, fun _ => ⟨fun u => nx (by omega) () fun k' h1 t1 => ?_, fun u => ⟨ik, ?_⟩⟩⟩
          · by_cases v : k' = k
            · subst v; exact u
            · exact hJ k' (by omega) t1
          · -- found
            have er : rank k = yy := cnt_nth_uni (r3 k tk) ryy (u.trans cyy.symm)
            unfold wp_Model_beyond
            rw [ix_nI (k := k) (by omega)]
            refine ⟨fun v => ?_, fun v => ⟨ik, ?_⟩⟩
            · have kb : b ≤ k := Classical.byContradiction fun y => by
                obtain ⟨e1, e2⟩ := W.1 k (by omega)
                rw [e1] at v
                exact zI_nn (by omega) v
              obtain ⟨k', q', x, f1, f2, f3, f4, f5, f6, f7⟩ := r2 k tk kb
              rw [f1, ix_nI (k := k') (by omega), f3]
              dsimp only
              rw [ix_nI (k := q') (by omega), f5]
              refine ⟨ik, (in_nI (by omega)).mpr (by omega), (in_nI (by omega)).mpr (by omega), law_ok eo ?_ (hK _ _)⟩
              unfold dec
              rw [if_neg (by omega)]
              congr 2
              omega
            · have kb : k < b := Classical.byContradiction fun y => by
                have p := W.2 ((k - b) / 2) (by omega)
                have cs : k = b + 2 * ((k - b) / 2) ∨ k = b + 2 * ((k - b) / 2) + 1 := by omega
                have : what k = (-1) - nI ((k - b) / 2) := by
                  rcases cs with e | e
                  · rw [← e] at p; exact p.1
                  · rw [← e] at p; exact p.2
                rw [this, Int32.lt_iff_toInt_lt, ng_toInt (by omega), Int32.toInt_zero] at v; omega
              have rw1 := r1 k tk kb
              have w100 := (W.1 k kb).2
              rw [(W.1 k kb).1]
              refine law_ok eo ?_ (hK _ _)
              unfold dec
              rw [if_pos (by omega), ← er, rw1]
        · rw [zI_le (by omega) (by omega)] at s
          have ij : vp_in (nI j) 320 := (in_nI (by omega)).mpr (by omega)
          rw [ix_nI (k := j) (by omega), zI_succ]
          refine ⟨ik, fun u => absurd pk u, fun _ => ⟨ij, fun u => nx2 (by omega) _ ?_, fun u => ?_⟩⟩
          · rw [cnt_succ, pr_f (fun v => u v.1.2), eb]; rfl
          · have tj : Tp piece sl' q j := ⟨by omega, u⟩
            have b1 : rank j < 1000 := by rcases r3 j tj with v | v <;> omega
            have b2 : rank k < 1000 := by rcases r3 k tk with v | v <;> omega
            refine sp_rankOf l294 c98 ct98 W b100 lnn r1 r2 tj (sp_rankOf l294 c98 ct98 W b100 lnn r1 r2 tk ?_)
            rw [zI_le (by omega) (by omega)]
            refine ⟨fun v => nx2 (by omega) _ ?_, fun v => nx2 (by omega) _ ?_⟩
            · rw [cnt_succ, pr_f (fun s => by omega), eb]; rfl
            · rw [cnt_succ, pr_t ⟨tj, by omega⟩, eb, zI_succ]
end
