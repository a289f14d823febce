/-! PURE PART XXX: the law's case of an edge's node -/
theorem sp_isThere {th : Nat → Int32} {mk : Nat} {x : Int32} {post : Int32 → Prop} (hmk : mk ≤ 100) (h1 : ∀ e, x = nI e → Ed mk th e → post 1) (h0 : (¬ ∃ e, x = nI e ∧ Ed mk th e) → post 0) : wp_Tree_isThere th (nI mk) x post := by
  unfold wp_Tree_isThere
  have small : ∀ e, Ed mk th e → e < 2147483648 := fun e he => by have := he.1; omega
  refine ⟨fun z => h0 fun ⟨e, ex, he⟩ => zI_nn (small e he) (ex ▸ z), fun z => ?_⟩
  obtain ⟨a, d⟩ := zI_of z
  refine ⟨fun y => h0 fun ⟨e, ex, he⟩ => ?_, fun y => ?_⟩
  · rw [ex, zI_le (by omega) (small e he)] at y
    have := he.1
    omega
  · rw [a, zI_le (by omega) d] at y
    refine ⟨?_, fun t => h0 fun ⟨e, ex, he⟩ => ?_, fun t => h1 (ix x) a ⟨by omega, t⟩⟩
    · rw [a]; exact (in_nI d).mpr (by omega)
    · rw [ex, ix_nI (small e he)] at t
      exact he.2 t
section
variable {fe se th : Nat → Int32} {mk : Nat} {kn sn an ln gn : Nat → Int32} {iN : Nat → Int64} {oe : Nat → Int32} {nc built tree items : Int32} {one two what piece kinds : Nat → Int32} {nodes : Int32} {po nu up ju pa : Nat → Int32} {L : Nat} {xs : Nat → Int32} {i thr : Int32} {o : Nat → Int64} {K : Int32 → (Nat → Int64) → Prop}
theorem law10 (S : ST (Ed mk th) (In fe se) kn sn an ln gn iN oe nc built tree items one two what piece kinds nodes po nu up ju pa) (hmk : mk ≤ 100) (hi : vp_in (i + 1) L) (hK : ∀ t o, K t o) : wp_Law_c10 L xs i th oe (nI mk) built thr tree items what piece nu o K := by
  refine ⟨hi, ?_⟩
  have x0 : vp_in 0 1 := (in_nI (k := 0) (by omega)).mpr (by omega)
  rcases S with ⟨rfl, rfl⟩ | ⟨rfl, rfl, c, sl', ct', rfl, rfl, rfl, g, h2, T⟩
  · refine ⟨fun z => absurd rfl z, fun _ => ⟨rfl, hi, ?_⟩⟩
    exact ⟨fun z => absurd rfl z, fun _ => ref_10 ⟨fun z => absurd z (by decide), fun _ => law_ex (by decide) (hK _ _)⟩⟩
  · obtain ⟨c98, -, ct98, l294⟩ := T.c98
    obtain ⟨b, w, b100, bsl, W, ln, hw, he⟩ := T.edge g h2
    refine ⟨fun _ => ?_, fun z => absurd z (by decide)⟩
    generalize hx : xs (ix (i + 1)) = x
    have ref : ∀ (v : Int32) (o1 : Nat → Int64), o1 = vp_updL o (ix 0) v.toInt64 → (∀ e, x = nI e → Ed mk th e → v = oe e) → ((¬ ∃ e, x = nI e ∧ Ed mk th e) → v = -1) → wp_Model_nodeOf thr 1 (nI sl') what piece nu x (fun r_4 m_thrown_3 => wp_Model_thrown m_thrown_3 (fun r_5 => (r_5 = 0 → (¬ (0 : Int32) = 0 → K m_thrown_3 o1) ∧ ((0 : Int32) = 0 → vp_in 0 1 ∧ ((lg_cmp (o1 (ix 0)) r_4.toInt64) = 0 → K m_thrown_3 o1) ∧ (¬ (lg_cmp (o1 (ix 0)) r_4.toInt64) = 0 → False))) ∧ (¬ r_5 = 0 → False))) := fun v o1 eo v1 v0 => by
      refine ⟨fun _ => ref_00 ⟨fun _ => ?_, fun z => absurd rfl z⟩, fun z => absurd z (by decide)⟩
      refine for1 sl' (fun k => ∀ i, i < k → i < b → x ≠ nI (w i)) (by omega) 0 (by omega) (fun i k => absurd k (by omega)) (fun K' k hk hJ nx => ⟨fun z => ?_, fun z => ?_⟩)
      · rw [zI_le (by omega) (by omega)] at z
        refine law_ok eo (v0 fun ⟨e, ex, ed⟩ => ?_) (hK _ _)
        obtain ⟨i', hi', ei'⟩ := he e ed
        exact hJ i' (by omega) hi' (by rw [ei']; exact ex)
      · rw [zI_le (by omega) (by omega)] at z
        have ik : vp_in (nI k) 320 := (in_nI (by omega)).mpr (by omega)
        rw [ix_nI (k := k) (by omega), zI_succ]
        have neg : ¬ k < b → what k < 0 := fun y => by
          have p := W.2 ((k - b) / 2) (by omega)
          have cs : k = b + 2 * ((k - b) / 2) ∨ k = b + 2 * ((k - b) / 2) + 1 := by omega
          have : what k = (-1) - nI ((k - b) / 2) := by
            rcases cs with e | e
            · rw [← e] at p; exact p.1
            · rw [← e] at p; exact p.2
          rw [this, Int32.lt_iff_toInt_lt, ng_toInt (by omega), Int32.toInt_zero]; omega
        have skip : (k < b → x ≠ nI (w k)) → K' (nI (k + 1)) := fun y => nx (by omega) () fun i' h1 h2 => by
          by_cases t : i' = k
          · subst t; exact y h2
          · exact hJ i' (by omega) h2
        refine ⟨ik, fun y => skip fun t e => y (by rw [e]; exact (W.1 k t).1), fun y => ⟨fun t => skip fun s e => ?_, fun t => ⟨ik, ?_⟩⟩⟩
        · rw [e] at t
          exact zI_nn (by have := (W.1 k s).2; omega) t
        · have kb : k < b := Classical.byContradiction fun s => t (y ▸ neg s)
          obtain ⟨ew, q, hq, ep, enu⟩ := hw k kb
          rw [ep, ix_nI (k := q) (by omega)]
          refine ⟨(in_nI (by omega)).mpr (by omega), fun x10 e10 => law_ok eo ?_ (hK _ _)⟩
          rw [e10, enu]
          exact v1 (w k) (y.symm.trans (W.1 k kb).1) ew
    refine sp_isThere hmk (fun e ex ed => ⟨fun z => absurd z (by decide), fun _ => ⟨?_, x0, fun o1 eo => ⟨hi, ref _ o1 eo (fun e' ex' ed' => ?_) (fun n => absurd ⟨e, ex, ed⟩ n)⟩⟩⟩) (fun n => ⟨fun _ => ⟨x0, fun o1 eo => ⟨hi, ref _ o1 eo (fun e ex ed => absurd ⟨e, ex, ed⟩ n) (fun _ => rfl)⟩⟩, fun z => absurd rfl z⟩)
    · have := ed.1
      rw [ex]; exact (in_nI (by omega)).mpr (by omega)
    · have a := ed.1
      have b := ed'.1
      rw [ex'] at ex ⊢
      rw [ix_nI (by omega)]
end
