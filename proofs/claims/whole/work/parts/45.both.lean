/-! PURE PART XIX: both programs reach a reduced tree -/
section
variable {fe se th ends : Nat → Int32} {mk : Nat}
theorem sp_fill {pfe pse pho : Nat → Int32} {psl pct : Int32} {post : (Nat → Int32) → (Nat → Int32) → (Nat → Int32) → Int32 → Int32 → Prop} (G : GC fe se mk) (F : Fit (Ed mk th) (In fe se)) (h : ∀ fe' se' ho', CP (Ed mk th) (In fe se) 100 (fun s => s) fe' se' ho' 100 1 → post fe' se' ho' (nI 100) (nI 1)) : wp_Tree_fillFirstPiece fe se th pfe pse pho psl pct (nI mk) post := by
  have l := G.1
  unfold wp_Tree_fillFirstPiece wp_Pieces_clear
  refine sp_fillI (by omega) fun h1 e1 => ?_
  refine for4 mk (fun k f s hh => (∀ i, i < k → th i ≠ 0 → f i = fe i ∧ s i = se i ∧ hh i = nI 0) ∧ (∀ i, i < 294 → (k ≤ i ∨ th i = 0) → hh i = -1)) (by omega) 0 pfe pse h1 (by omega) ⟨fun i k => absurd k (by omega), fun i hi _ => e1 i hi⟩ (fun K k f s hh hk hJ nx => ⟨fun q => ?_, fun q => ?_⟩)
  · rw [zI_le (by omega) (by omega)] at q
    have : k = mk := by omega
    subst this
    have li : ∀ s, livS hh 100 s ↔ Ed k th s := fun s => by
      constructor
      · rintro ⟨a, b⟩
        by_cases z : k ≤ s ∨ th s = 0
        · exact absurd (hJ.2 s (by omega) z) b
        · exact ⟨by omega, fun y => z (Or.inr y)⟩
      · rintro ⟨a, b⟩
        exact ⟨by omega, by rw [(hJ.1 s a b).2.2]; exact zI_ne (by omega)⟩
    have fU : ∀ s, Ed k th s → en f s = en fe s := fun s hs => by unfold en; rw [(hJ.1 s hs.1 hs.2).1]
    have fV : ∀ s', Ed k th s' → en s s' = en se s' := fun s hs => by unfold en; rw [(hJ.1 s hs.1 hs.2).2.1]
    refine h f s hh (CP.init G.gr (F.two G.gr) F.1 (by omega) (fun s hs => ?_) (fun s hs => (li s).mp hs) (fun s t _ _ e => e) (fun e he => ⟨e, (li e).mpr he, rfl⟩) (fun s' hs => ?_) (fun s' hs => ?_))
    · have := (li s).mp hs
      exact (hJ.1 s this.1 this.2).2.2
    · have e := (li s').mp hs
      obtain ⟨a, b, -⟩ := G.2 s' e.1
      rw [fU s' e, fV s' e, (hJ.1 s' e.1 e.2).1, (hJ.1 s' e.1 e.2).2.1]
      exact ⟨a, b⟩
    · have e := (li s').mp hs
      obtain ⟨-, -, a, b, c⟩ := G.2 s' e.1
      rw [fU s' e, fV s' e]
      exact ⟨a, b, c, fun x => Iff.rfl⟩
  · rw [zI_le (by omega) (by omega)] at q
    have ik : vp_in (nI k) 100 := (in_nI (by omega)).mpr (by omega)
    have ik2 : vp_in (nI k) 294 := (in_nI (by omega)).mpr (by omega)
    rw [zI_succ]
    unfold wp_Pieces_place
    rw [ix_nI (by omega)]
    refine ⟨ik, fun z => nx (by omega) _ _ _ ⟨fun i hi t => ?_, fun i hi t => ?_⟩, fun z => ⟨ik, ik, ik2, fun f' ef => ⟨ik2, fun s' es => ⟨ik2, fun h' eh => nx (by omega) _ _ _ ⟨fun i hi t => ?_, fun i hi t => ?_⟩⟩⟩⟩⟩
    · have : i ≠ k := fun e => t (e ▸ z)
      exact hJ.1 i (by omega) t
    · by_cases e : i = k
      · rw [e]; exact hJ.2 k (by omega) (Or.inr z)
      · exact hJ.2 i hi (t.imp (fun t => by omega) id)
    · by_cases e : i = k
      · rw [e, ef, es, eh, upd_at, upd_at, upd_at]; exact ⟨rfl, rfl, rfl⟩
      · rw [ef, es, eh, upd_ne e, upd_ne e, upd_ne e]; exact hJ.1 i (by omega) t
    · have : i ≠ k := fun e => by
        subst e
        rcases t with t | t
        · omega
        · exact z t
      rw [eh, upd_ne this]
      exact hJ.2 i hi (t.imp (fun t => by omega) id)
/-- the class, from a fit graph to a reduced tree -/
theorem sp_classTree {pfe pse pho kq sa : Nat → Int32} {psl pct : Int32} {near twice : Nat → Int64} {present : Int64} {post : (Nat → Int32) → (Nat → Int32) → (Nat → Int32) → (Nat → Int32) → (Nat → Int32) → (Nat → Int64) → (Nat → Int64) → Int64 → Int32 → Int32 → Prop} (G : GC fe se mk) (F : Fit (Ed mk th) (In fe se)) (s0 : sa 0 = nI 0)
    (h : ∀ fe' se' ho kq sa near twice present sl ct M, FP (Ed mk th) (In fe se) 100 (fun s => s) fe' se' ho kq sl ct M → sa 0 = nI 0 → post fe' se' ho kq sa near twice present (nI sl) (nI ct)) :
    wp_Tree_fillFirstPiece fe se th pfe pse pho psl pct (nI mk) (fun a b c d e => wp_Pieces_comeApartWholly a b c kq sa near twice present d e (fun a1 b1 c1 k1 s1 n1 t1 r1 d1 e1 => wp_Pieces_uniteRings c1 k1 d1 (fun c2 => post a1 b1 c2 k1 s1 n1 t1 r1 d1 e1))) := by
  have g := G.gr (th := th)
  have h2 := F.two g
  refine sp_fill G F fun fe' se' ho' C => ?_
  have st : ∀ q, 0 ≤ q → q < 1 → ∃ a, a ≤ 40 ∧ sa q = nI a ∧ ∀ u v, u < v → v < 40 → u < a → ¬ CSpl (Tp ho' 100 q) (en fe') (en se') u v := fun q _ hq => by
    have e : q = 0 := by omega
    rw [e]
    exact ⟨0, by omega, s0, fun u v _ _ k => absurd k (by omega)⟩
  refine sp_comeApartWholly g h2 ⟨C, fun j q a b c => absurd c (by omega), s0, fun q hq => absurd hq (by omega), st⟩ fun fe' se' ho kq sa near twice present sl ct B => ?_
  exact sp_uniteRings h2 B fun ho' M FF => h _ _ _ _ _ _ _ _ _ _ M FF B.2.2.1
/-- the reference, the same -/
theorem sp_modelTree {thrown tree its ps js nds : Int32} {one two what piece kinds gr many pieceOf numberOf ups jointUp partner beyonds gone : Nat → Int32} {post : Int32 → Int32 → Int32 → Int32 → (Nat → Int32) → (Nat → Int32) → (Nat → Int32) → (Nat → Int32) → Int32 → Int32 → (Nat → Int32) → (Nat → Int32) → (Nat → Int32) → Int32 → (Nat → Int32) → (Nat → Int32) → (Nat → Int32) → (Nat → Int32) → (Nat → Int32) → (Nat → Int32) → (Nat → Int32) → Prop} (G : GC fe se mk) (R : RG fe se ends mk)
    (h1 : Fit (Ed mk th) (In fe se) → ∀ b w one two what piece kinds gr many sl ct M, FP (Ed mk th) (In fe se) b w one two piece kinds sl ct M → WA b w what ct → b = cnt 100 (Ed mk th) → (∀ e, Ed mk th e → w (cnt e (Ed mk th)) = e) → wp_Model_lookBeyond (nI sl) what piece (nI (ct - 1)) partner beyonds (fun partner_32 beyonds_33 => vp_in 0 320 ∧ wp_Model_number (nI sl) what piece 0 pieceOf numberOf ups jointUp partner_32 beyonds_33 gone (piece (ix 0)) (fun nodes_34 pieceOf_35 numberOf_36 ups_37 jointUp_38 gone_39 => post nodes_34 0 1 (nI sl) one two what piece (nI ct) (nI (ct - 1)) kinds gr many nodes_34 pieceOf_35 numberOf_36 ups_37 jointUp_38 partner_32 beyonds_33 gone_39)))
    (h0 : ¬ Fit (Ed mk th) (In fe se) → ∀ gr, post (-1) 0 0 its one two what piece ps js kinds gr many nds pieceOf numberOf ups jointUp partner beyonds gone) :
    wp_Model_build thrown (nI mk) ends th tree its one two what piece ps js kinds gr many nds pieceOf numberOf ups jointUp partner beyonds gone post := by
  have l := G.1
  unfold wp_Model_build
  refine sp_isFit G R (fun gr F => ⟨Or.inr rfl, fun _ => ?_, fun z => absurd z (by decide)⟩) (fun gr nf => ⟨Or.inl rfl, fun z => absurd rfl z, fun _ => h0 nf gr⟩)
  have g := G.gr (th := th)
  have h2 := F.two g
  have hh := h1 F
  have cl : ∀ k, cnt k (Ed mk th) ≤ k := fun k => cnt_le k _
  refine for6 mk (fun k its o t wh pc => its = nI (cnt k (Ed mk th)) ∧ ∀ e, e < k → th e ≠ 0 → o (cnt e (Ed mk th)) = fe e ∧ t (cnt e (Ed mk th)) = se e ∧ wh (cnt e (Ed mk th)) = nI e ∧ pc (cnt e (Ed mk th)) = nI 0) (by omega) 0 0 one two what piece (by omega) ⟨rfl, fun e k => absurd k (by omega)⟩ (fun K k its o t wh pc hk hJ nx => ⟨fun q => ?_, fun q => ?_⟩)
  rotate_left
  · rw [zI_le (by omega) (by omega)] at q
    have ck := cl k
    have i3 : vp_in (nI (cnt k (Ed mk th))) 320 := (in_nI (by omega)).mpr (by omega)
    obtain ⟨r1, r2⟩ := R k (by omega)
    rw [zI_dbl, zI_succ, zI_succ, ix_nI (by omega), ix_nI (by omega), ix_nI (by omega), r1, r2]
    refine ⟨(in_nI (by omega)).mpr (by omega), fun z => nx (by omega) _ _ _ _ _ ⟨?_, fun e he t' => ?_⟩, fun z => ⟨(in_nI (by omega)).mpr (by omega), (in_nI (by omega)).mpr (by omega), ?_⟩⟩
    · rw [hJ.1, cnt_succ, pr_f (fun y => y.2 z)]; rfl
    · have : e ≠ k := fun y => t' (y ▸ z)
      exact hJ.2 e (by omega) t'
    · rw [hJ.1]
      unfold wp_Model_add
      rw [ix_nI (by omega), zI_succ]
      refine ⟨i3, fun o' eo => ⟨i3, fun t' et => ⟨i3, fun w' ew => ⟨i3, fun p' ep => nx (by omega) _ _ _ _ _ ⟨?_, fun e he t'' => ?_⟩⟩⟩⟩⟩
      · rw [cnt_succ, pr_t ⟨by omega, z⟩]
      · by_cases y : e = k
        · rw [y, eo, et, ew, ep, upd_at, upd_at, upd_at, upd_at]; exact ⟨rfl, rfl, rfl, rfl⟩
        · have : cnt e (Ed mk th) ≠ cnt k (Ed mk th) := by
            have := cnt_step (P := Ed mk th) (show e < k by omega) ⟨by omega, t''⟩
            omega
          rw [eo, et, ew, ep, upd_ne this, upd_ne this, upd_ne this, upd_ne this]
          exact hJ.2 e (by omega) t''
  rw [zI_le (by omega) (by omega)] at q
  have : k = mk := by omega
  subst this
  obtain ⟨hits, hJ⟩ := hJ
  have eb : cnt k (Ed k th) = cnt 100 (Ed k th) := by
    have : ∀ n, k ≤ n → cnt n (Ed k th) = cnt k (Ed k th) := fun n hn => by
      induction n with
      | zero => have : k = 0 := by omega
                rw [this]
      | succ n ih =>
        by_cases z : k = n + 1
        · rw [z]
        · rw [cnt_succ, pr_f (fun k => absurd k.1 (by omega)), ih (by omega)]; rfl
    exact (this 100 l).symm
  have bl := cl k
  have nth : ∀ s, s < cnt k (Ed k th) → ∃ e, Ed k th e ∧ cnt e (Ed k th) = s := fun s hs => by
    obtain ⟨e, -, he, ee⟩ := cnt_nth hs
    exact ⟨e, he, ee⟩
  have lt : ∀ e, Ed k th e → cnt e (Ed k th) < cnt k (Ed k th) := fun e he => cnt_step he.1 he
  have we : ∀ e, Ed k th e → en wh (cnt e (Ed k th)) = e := fun e he => by
    unfold en
    rw [(hJ e he.1 he.2).2.2.1, ix_nI (by have := he.1; omega)]
  have C : CP (Ed k th) (In fe se) (cnt k (Ed k th)) (en wh) o t pc (cnt k (Ed k th)) 1 := by
    refine CP.init g h2 F.1 (by omega) (fun s hs => ?_) (fun s hs => ?_) (fun s s' hs hs' e => ?_) (fun e he => ⟨cnt e (Ed k th), ⟨lt e he, ?_⟩, we e he⟩) (fun s hs => ?_) (fun s hs => ?_)
    · obtain ⟨e, he, ee⟩ := nth s hs.1
      rw [← ee]; exact (hJ e he.1 he.2).2.2.2
    · obtain ⟨e, he, ee⟩ := nth s hs.1
      rw [← ee, we e he]; exact he
    · obtain ⟨e1, he1, ee1⟩ := nth s hs.1
      obtain ⟨e2, he2, ee2⟩ := nth s' hs'.1
      rw [← ee1, ← ee2, we e1 he1, we e2 he2] at e
      rw [← ee1, ← ee2, e]
    · rw [(hJ e he.1 he.2).2.2.2]; exact zI_ne (by omega)
    · obtain ⟨e, he, ee⟩ := nth s hs.1
      obtain ⟨a, b, -⟩ := G.2 e he.1
      obtain ⟨c1, c2, -⟩ := hJ e he.1 he.2
      unfold en
      rw [← ee, c1, c2]
      exact ⟨a, b⟩
    · obtain ⟨e, he, ee⟩ := nth s hs.1
      obtain ⟨-, -, a, b, c⟩ := G.2 e he.1
      obtain ⟨c1, c2, -⟩ := hJ e he.1 he.2
      have u1 : en o s = en fe e := by unfold en; rw [← ee, c1]
      have u2 : en t s = en se e := by unfold en; rw [← ee, c2]
      rw [u1, u2, ← ee, we e he]
      exact ⟨a, b, c, fun x => Iff.rfl⟩
  have R0 : RP (Ed k th) (In fe se) (cnt k (Ed k th)) (en wh) o t wh pc (cnt k (Ed k th)) 1 := ⟨C, fun s hs => by
    obtain ⟨e, he, ee⟩ := nth s hs
    have a := he.1
    rw [← ee, we e he, (hJ e he.1 he.2).2.2.1]
    exact ⟨rfl, by omega⟩, fun k' hk' => absurd hk' (by omega)⟩
  have fin := fun one two what piece kinds gr many sl ct M FF W => hh (cnt k (Ed k th)) (en wh) one two what piece kinds gr many sl ct M FF W eb we
  clear hh h1 h0 C hJ eb nx
  rw [hits]
  clear hits
  generalize cnt k (Ed k th) = b at *
  generalize en wh = w at *
  refine for10 98 (fun p its o t wh pc ps js gr mn => ∃ sl ct, its = nI sl ∧ ps = nI ct ∧ js = nI (ct - 1) ∧ p ≤ ct ∧ RP (Ed k th) (In fe se) b w o t wh pc sl ct ∧ ∀ q, q < p → ∀ a c, a < c → c < 40 → ¬ Spl (Tp pc sl q) (en o) (en t) a c) (by omega) 0 (nI b) o t wh pc 1 0 gr many (by omega) ⟨b, 1, rfl, rfl, rfl, by omega, R0, fun q hq => absurd hq (by omega)⟩ ?_
  clear R0
  rintro K p _ o t wh pc _ _ gr mn hp ⟨sl, ct, rfl, rfl, rfl, pc', R1, no⟩ nx
  have c98 := R1.1.ct98
  refine ⟨fun q => ?_, fun q => ?_⟩
  · rw [zI_le (by omega) (by omega)] at q
    have : p = ct := by omega
    subst this
    -- the kinds
    refine for2 p (fun k kinds => ∀ q, q < k → kinds q = kof (Tp pc sl q) (en o) (en t)) (by omega) 0 kinds (by omega) (fun q hq => absurd hq (by omega)) (fun K2 k2 kinds hk2 hJ nx2 => ⟨fun q2 => ?_, fun q2 => ?_⟩)
    · rw [zI_le (by omega) (by omega)] at q2
      refine sp_putTogether R1.2 (MP.start R1.1 h2 (kq := kinds) (fun q hq => hJ q (by omega)) (fun q hq u v uv hv z => no q hq u v uv hv z.2)) fun pc' M FF => ?_
      exact fin o t wh pc' kinds gr mn sl p M FF R1.2
    · rw [zI_le (by omega) (by omega)] at q2
      rw [zI_succ]
      have cl := cnt_le 40 (Pts (Tp pc sl k2) (en o) (en t))
      have ik : vp_in (nI k2) 110 := (in_nI (by omega)).mpr (by omega)
      have set : ∀ x : Int32, x = kof (Tp pc sl k2) (en o) (en t) → ∀ kinds' : Nat → Int32, kinds' = upd kinds (ix (nI k2)) x → K2 (nI (k2 + 1)) kinds' := fun x ex kinds' e => nx2 (by omega) _ fun q hq => by
        rw [ix_nI (by omega)] at e
        by_cases y : q = k2
        · rw [e, y, upd_at, ex]
        · rw [e, upd_ne y]; exact hJ q (by omega)
      refine sp_pointsOf R1.1 (by omega) ⟨fun z => sp_pointsOf R1.1 (by omega) ⟨fun y => ⟨ik, fun kd e => set 2 ?_ kd e⟩, fun y => ⟨ik, fun kd e => set 1 ?_ kd e⟩⟩, fun z => ⟨ik, fun kd e => set 0 ?_ kd e⟩⟩
      · rw [L2, zI_eq (by omega) (by omega)] at z
        rw [L3, zI_eq (by omega) (by omega)] at y
        unfold kof; rw [if_neg z, if_neg y]
      · rw [L2, zI_eq (by omega) (by omega)] at z
        rw [L3, zI_eq (by omega) (by omega)] at y
        unfold kof; rw [if_neg z, if_pos y]
      · rw [L2, zI_eq (by omega) (by omega)] at z
        unfold kof; rw [if_pos z]
  · rw [zI_le (by omega) (by omega)] at q
    rw [zI_succ]
    refine sL10_of (fun m its o t wh pc ps js _ _ => ∃ sl ct, its = nI sl ∧ ps = nI ct ∧ js = nI (ct - 1) ∧ p < ct ∧ RP (Ed k th) (In fe se) b w o t wh pc sl ct ∧ (∀ q, q < p → ∀ a c, a < c → c < 40 → ¬ Spl (Tp pc sl q) (en o) (en t) a c) ∧ ((m = nI 0 ∧ ∀ a c, a < c → c < 40 → ¬ Spl (Tp pc sl p) (en o) (en t) a c) ∨ m = nI 1)) (fun m _ _ _ _ _ ps _ _ _ => 2 * (98 - ix ps) + ix m) ?_ _ _ _ _ _ _ _ _ _ _ ⟨sl, ct, rfl, rfl, rfl, by omega, R1, no, Or.inr rfl⟩
    clear R1 no
    rintro K2 m _ o t wh pc _ _ gr mn ⟨sl, ct, rfl, rfl, rfl, pct, R1, no, hm⟩ ih
    have c98 := R1.1.ct98
    rcases hm with ⟨rfl, np⟩ | rfl
    · refine ⟨fun _ => nx (by omega) _ _ _ _ _ _ _ _ _ ⟨sl, ct, rfl, rfl, rfl, by omega, R1, fun q hq => ?_⟩, fun z => absurd rfl z⟩
      by_cases y : q = p
      · rw [y]; exact np
      · exact no q (by omega)
    · refine ⟨fun z => absurd z (by decide), fun _ => ?_⟩
      refine sp_split g h2 R1 pct (fun o' t' wh' pc' gr mn c97 R2 keep => ih _ _ _ _ _ _ _ _ _ _ ⟨sl + 2, ct + 1, rfl, rfl, congrArg nI (by omega), by omega, ?_, fun q hq a c ac hc z => no q hq a c ac hc (keep q (by omega) (by omega) a c z), Or.inr rfl⟩ ?_) (fun gr mn np => ih _ _ _ _ _ _ _ _ _ _ ⟨sl, ct, rfl, rfl, rfl, pct, R1, no, Or.inl ⟨rfl, np⟩⟩ ?_)
      · exact R2
      · rw [ix_nI (by omega), ix_nI (by omega), ix_nI (by omega)]
        show 2 * (98 - (ct + 1)) + 1 < 2 * (98 - ct) + 1
        omega
      · rw [ix_nI (by omega)]
        show 2 * (98 - ct) + 0 < 2 * (98 - ct) + 1
        omega
end
