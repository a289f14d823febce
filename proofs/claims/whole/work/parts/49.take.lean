/-! PURE PART XXIII: the class's nodes -/
/-- the class's row, and what it knows of it -/
def CR (E : Nat → Prop) (I : Nat → Nat → Prop) (fe se ho kq : Nat → Int32) (sl ct : Nat) (M : Nat → Nat → Prop) (e0 r c : Nat) (P T par lst wt num : Nat → Nat) : Prop :=
  FP E I 100 (fun s => s) fe se ho kq sl ct M ∧ E e0 ∧ (∀ e, e < e0 → ¬ E e) ∧ Tp ho sl r e0 ∧ r < ct ∧ O1 ho sl ct e0 r M c P T par ∧ O4 E M c T lst ∧ O5 c par wt ∧ O6 c par lst wt num
/-- the nodes' arrays -/
def NA (fe se ho kq : Nat → Int32) (sl c : Nat) (P T par num : Nat → Nat) (kn sn an ln gn : Nat → Int32) (iN : Nat → Int64) (oe : Nat → Int32) : Prop :=
  (∀ j, j < c → kn (num j) = kq (P j) ∧ sn (num j) = nI (cnt sl (Tp ho sl (P j))) ∧ ∀ x, bt (iN (num j)) x ↔ Pts (Tp ho sl (P j)) (en fe) (en se) x) ∧
  (an 0 = -1 ∧ ln 0 = -1 ∧ gn 0 = -1) ∧ (∀ j, 1 ≤ j → j < c → an (num j) = nI (num (par j)) ∧ ln (num j) = nI (min (en fe (T j)) (en se (T j))) ∧ gn (num j) = nI (max (en fe (T j)) (en se (T j)))) ∧
  (∀ e j, e < 100 → j < c → Tp ho sl (P j) e → oe e = nI (num j)) ∧ ∀ e, e < 100 → ho e = -1 → oe e = -1
section
variable {E : Nat → Prop} {I : Nat → Nat → Prop} {fe se ho kq : Nat → Int32} {sl ct e0 r : Nat} {M : Nat → Nat → Prop} {row above sideUp number least weight : Nat → Int32} {c : Nat} {P T par lst wt num : Nat → Nat}
theorem CR.hp (R : CR E I fe se ho kq sl ct M e0 r c P T par lst wt num) : ∀ j, 1 ≤ j → j < c → par j < j := fun j a b => (R.2.2.2.2.2.1.2.2.2.1 j a b).2.2.2.1
theorem CR.cc (R : CR E I fe se ho kq sl ct M e0 r c P T par lst wt num) : c ≤ ct := pig (f := P) (fun j hj => (R.2.2.2.2.2.1.1 j hj).1) R.2.2.2.2.2.1.2.1
theorem CR.lt (R : CR E I fe se ho kq sl ct M e0 r c P T par lst wt num) {j : Nat} (hj : j < c) : num j < c := by
  have := num_le R.hp R.2.2.2.2.2.2.2.1 R.2.2.2.2.2.2.2.2 hj
  omega
theorem CR.inj (R : CR E I fe se ho kq sl ct M e0 r c P T par lst wt num) {j k : Nat} (hj : j < c) (hk : k < c) (e : num j = num k) : j = k := num_inj R.hp (O1.sib R.1 R.2.2.2.2.2.1 R.2.2.2.2.2.2.1) R.2.2.2.2.2.2.2.1 R.2.2.2.2.2.2.2.2 hj hk e
theorem sp_takeNode {kn sn an ln gn : Nat → Int32} {iN : Nat → Int64} {i : Nat} {post : (Nat → Int32) → (Nat → Int32) → (Nat → Int32) → (Nat → Int32) → (Nat → Int32) → (Nat → Int64) → Prop} (R : CR E I fe se ho kq sl ct M e0 r c P T par lst wt num) (hi : i < c) (ha0 : above (P 0) = -1) (hs0 : sideUp (P 0) = -1) (hab : ∀ j, 1 ≤ j → j < c → above (P j) = nI (P (par j))) (hsu : ∀ j, 1 ≤ j → j < c → sideUp (P j) = nI (T j)) (hnu : ∀ j, j < c → number (P j) = nI (num j))
    (h : ∀ x y z : Int32, (i = 0 → x = -1 ∧ y = -1 ∧ z = -1) → (1 ≤ i → x = nI (num (par i)) ∧ y = nI (min (en fe (T i)) (en se (T i))) ∧ z = nI (max (en fe (T i)) (en se (T i)))) → post (upd kn (num i) (kq (P i))) (upd sn (num i) 0) (upd an (num i) x) (upd ln (num i) y) (upd gn (num i) z) (vp_updL iN (num i) 0)) :
    wp_Nodes_takeNode kn sn an ln gn iN fe se kq above sideUp number (nI (P i)) post := by
  obtain ⟨F, h0, l0, hr, rc, O, h4, h5, h6⟩ := id R
  have c98 := F.ct98
  have cc := R.cc
  have l294 := F.sl294
  obtain ⟨o1, o2, o3, o4, o5, o6⟩ := id O
  have pi := (o1 i hi).1
  have ni := R.lt hi
  have ip : vp_in (nI (P i)) 98 := (in_nI (by omega)).mpr (by omega)
  have iN' : vp_in (nI (num i)) 98 := (in_nI (by omega)).mpr (by omega)
  unfold wp_Nodes_takeNode
  rw [ix_nI (k := P i) (by omega), hnu i hi, ix_nI (k := num i) (by omega)]
  refine ⟨ip, ip, ip, ip, iN', fun k1 e1 => ⟨iN', fun s3 e3 => ⟨iN', fun i5 e5 => ?_⟩⟩⟩
  subst e1 e3 e5
  by_cases z : i = 0
  · subst z
    rw [ha0, hs0]
    refine ⟨fun y => absurd rfl y, fun _ => ⟨iN', fun a12 e12 => ⟨fun y => absurd rfl y, fun _ => ⟨iN', fun l23 e23 => ⟨fun y => absurd rfl y, fun _ => ⟨iN', fun g33 e33 => ?_⟩⟩⟩⟩⟩⟩
    rw [e12, e23, e33]
    exact h _ _ _ (fun _ => ⟨rfl, rfl, rfl⟩) (fun y => by omega)
  · have p1 := R.hp i (by omega) hi
    have pp := (o1 (par i) (by omega)).1
    have np := R.lt (show par i < c by omega)
    obtain ⟨t1, t2, -⟩ := o4 i (by omega) hi
    have tl := t2.1
    have it : vp_in (nI (T i)) 294 := (in_nI (by omega)).mpr (by omega)
    have lt := F.lv t2 (by omega)
    obtain ⟨f1, f2⟩ := F.2.2.2.1 (T i) lt
    obtain ⟨d1, d2, -⟩ := F.1.2.2.2.2.1 (T i) lt
    rw [hab i (by omega) hi, hsu i (by omega) hi, ix_nI (k := P (par i)) (by omega), hnu (par i) (by omega), ix_nI (k := T i) (by omega), f1, f2]
    refine ⟨fun _ => ⟨(in_nI (by omega)).mpr (by omega), fun x10 e10 => ⟨iN', fun a12 e12 => ⟨fun _ => ⟨it, fun x17 e17 => ⟨it, fun x19 e19 x21 e21 => ⟨iN', fun l23 e23 => ⟨fun _ => ⟨it, fun x25 e25 => ⟨it, fun x27 e27 x29 e29 => ⟨iN', fun g31 e31 => ?_⟩⟩⟩, fun y => absurd y (zI_ne (by omega))⟩⟩⟩⟩, fun y => absurd y (zI_ne (by omega))⟩⟩⟩, fun y => absurd y (zI_ne (by omega))⟩
    rw [e12, e23, e31]
    refine h _ _ _ (fun y => absurd y z) (fun _ => ⟨e10, ?_, ?_⟩)
    · rw [e21, e17, e19]
      by_cases y : en se (T i) < en fe (T i)
      · rw [if_pos ((zI_lt (by omega) (by omega)).mpr y)]; congr 1; omega
      · rw [if_neg (fun t => y ((zI_lt (by omega) (by omega)).mp t))]; congr 1; omega
    · rw [e29, e25, e27]
      by_cases y : en fe (T i) < en se (T i)
      · rw [if_pos ((zI_lt (by omega) (by omega)).mpr y)]; congr 1; omega
      · rw [if_neg (fun t => y ((zI_lt (by omega) (by omega)).mp t))]; congr 1; omega
theorem sp_take {kn sn an ln gn oe : Nat → Int32} {iN : Nat → Int64} {nc : Int32} {post : (Nat → Int32) → (Nat → Int32) → (Nat → Int32) → (Nat → Int32) → (Nat → Int32) → (Nat → Int64) → (Nat → Int32) → Int32 → Prop} (R : CR E I fe se ho kq sl ct M e0 r c P T par lst wt num) (hrow : ∀ j, j < c → row j = nI (P j)) (ha0 : above (P 0) = -1) (hs0 : sideUp (P 0) = -1) (hab : ∀ j, 1 ≤ j → j < c → above (P j) = nI (P (par j))) (hsu : ∀ j, 1 ≤ j → j < c → sideUp (P j) = nI (T j)) (hnu : ∀ j, j < c → number (P j) = nI (num j))
    (h : ∀ kn sn an ln gn iN oe, NA fe se ho kq sl c P T par num kn sn an ln gn iN oe → post kn sn an ln gn iN oe (nI c)) :
    wp_Nodes_take kn sn an ln gn iN oe nc fe se ho kq (nI sl) row above sideUp number (nI c) post := by
  obtain ⟨F, h0, l0, hr, rc, O, h4, h5, h6⟩ := id R
  have c98 := F.ct98
  have cc := R.cc
  have l294 := F.sl294
  have ln' := F.len
  have c1' := F.ct1
  obtain ⟨o1, o2, o3, o4, o5, o6⟩ := id O
  unfold wp_Nodes_take
  refine for7 c (fun i kn sn an ln gn iN => (∀ j, j < i → kn (num j) = kq (P j) ∧ sn (num j) = nI 0 ∧ iN (num j) = 0) ∧ (∀ j, j < i → (j = 0 → an (num j) = -1 ∧ ln (num j) = -1 ∧ gn (num j) = -1) ∧ (1 ≤ j → an (num j) = nI (num (par j)) ∧ ln (num j) = nI (min (en fe (T j)) (en se (T j))) ∧ gn (num j) = nI (max (en fe (T j)) (en se (T j)))))) (by omega) 0 kn sn an ln gn iN (by omega) ⟨fun j k => absurd k (by omega), fun j k => absurd k (by omega)⟩ (fun K i kn sn an ln gn iN hi hJ nx => ⟨fun q => ?_, fun q => ?_⟩)
  rotate_left
  · rw [zI_le (by omega) (by omega)] at q
    have hc : i < c := by omega
    rw [zI_succ, ix_nI (k := i) (by omega), hrow i hc]
    refine ⟨(in_nI (by omega)).mpr (by omega), sp_takeNode R hc ha0 hs0 hab hsu hnu fun x y z hx hy => nx (by omega) _ _ _ _ _ _ ⟨fun j hj => ?_, fun j hj => ?_⟩⟩
    · by_cases e : j = i
      · subst e; rw [upd_at, upd_at, updL_at]; exact ⟨rfl, rfl, rfl⟩
      · have n : num j ≠ num i := fun k => e (R.inj (by omega) hc k)
        rw [upd_ne n, upd_ne n, updL_ne n]; exact hJ.1 j (by omega)
    · by_cases e : j = i
      · subst e; rw [upd_at, upd_at, upd_at]; exact ⟨hx, hy⟩
      · have n : num j ≠ num i := fun k => e (R.inj (by omega) hc k)
        rw [upd_ne n, upd_ne n, upd_ne n]; exact hJ.2 j (by omega)
  rw [zI_le (by omega) (by omega)] at q
  have : i = c := by omega
  subst this
  have nm0 : num 0 = 0 := h6.1
  refine for4 sl (fun s sn iN oe => (∀ j, j < i → sn (num j) = nI (cnt s (Tp ho sl (P j))) ∧ ∀ x, bt (iN (num j)) x ↔ ∃ t, t < s ∧ Tp ho sl (P j) t ∧ (x = en fe t ∨ x = en se t)) ∧ (∀ e j, e < s → e < 100 → j < i → Tp ho sl (P j) e → oe e = nI (num j)) ∧ ∀ e, e < s → e < 100 → ho e = -1 → oe e = -1) (by omega) 0 sn iN oe (by omega) ⟨fun j hj => ⟨(hJ.1 j hj).2.1, fun x => ⟨fun k => absurd ((hJ.1 j hj).2.2 ▸ k) (bt_zero x), fun ⟨t, ht, _⟩ => absurd ht (by omega)⟩⟩, fun e j k => absurd k (by omega), fun e k => absurd k (by omega)⟩ (fun K2 s sn iN oe hs hJ2 nx2 => ⟨fun q2 => ?_, fun q2 => ?_⟩)
  · rw [zI_le (by omega) (by omega)] at q2
    have : s = sl := by omega
    subst this
    have a0 := (hJ.2 0 (by omega)).1 rfl
    rw [nm0] at a0
    refine h kn sn an ln gn iN oe ⟨fun j hj => ⟨(hJ.1 j hj).1, (hJ2.1 j hj).1, fun x => ((hJ2.1 j hj).2 x).trans ⟨fun ⟨t, _, k⟩ => ⟨t, k⟩, fun ⟨t, k⟩ => ⟨t, k.1.1, k⟩⟩⟩, a0, fun j a b => (hJ.2 j b).2 a, fun e j he hj t => hJ2.2.1 e j (by omega) he hj t, fun e he t => hJ2.2.2 e (by omega) he t⟩
  · rw [zI_le (by omega) (by omega)] at q2
    have is : vp_in (nI s) 294 := (in_nI (by omega)).mpr (by omega)
    rw [zI_succ, ix_nI (k := s) (by omega), L100, zI_le (by omega) (by omega)]
    have iS : s < 100 → vp_in (nI s) 100 := fun y => (in_nI (by omega)).mpr y
    refine ⟨is, ?_⟩
    by_cases z : ho s = -1
    · rw [z]
      have no : ∀ j, j < i → ¬ Tp ho sl (P j) s := fun j hj t => by
        have := (o1 j hj).1
        exact zI_ne (by omega) (t.2.symm.trans z)
      have base : ∀ oe', (∀ e, e ≠ s → oe' e = oe e) → (s < 100 → oe' s = -1) → K2 (nI (s + 1)) sn iN oe' := fun oe' k1 k2 => nx2 (by omega) _ _ _ ⟨fun j hj => ⟨by rw [cnt_succ, pr_f (no j hj)]; exact (hJ2.1 j hj).1, fun x => ((hJ2.1 j hj).2 x).trans ⟨fun ⟨t, ht, k⟩ => ⟨t, by omega, k⟩, fun ⟨t, ht, k⟩ => ⟨t, by
        have : t ≠ s := fun y => no j hj (y ▸ k.1)
        omega, k⟩⟩⟩, fun e j he h100 hj t => by
          have : e ≠ s := fun y => no j hj (y ▸ t)
          rw [k1 e this]; exact hJ2.2.1 e j (by omega) h100 hj t, fun e he h100 t => by
          by_cases y : e = s
          · rw [y]; exact k2 (y ▸ h100)
          · rw [k1 e y]; exact hJ2.2.2 e (by omega) h100 t⟩
      refine ⟨fun y => absurd rfl y, fun _ => ⟨fun _ => ⟨fun y => base oe (fun _ _ => rfl) (fun t => absurd t (by omega)), fun y => ⟨iS (by omega), fun oe' eo => base oe' (fun e ne => by rw [eo, upd_ne ne]) (fun _ => by rw [eo, upd_at])⟩⟩, fun y => absurd rfl y⟩⟩
    · obtain ⟨p, hp, tp⟩ := F.pc (s := s) ⟨by omega, z⟩
      obtain ⟨j0, hj0, ej0⟩ := o6 p s hp tp
      have nl := R.lt hj0
      have lvs : livS ho sl s := ⟨by omega, z⟩
      obtain ⟨f1, f2⟩ := F.2.2.2.1 s lvs
      obtain ⟨d1, d2, -⟩ := F.1.2.2.2.2.1 s lvs
      have tj : Tp ho sl (P j0) s := ej0 ▸ tp
      have inn : vp_in (nI (num j0)) 98 := (in_nI (by omega)).mpr (by omega)
      rw [tp.2, ix_nI (k := p) (by omega), f1, f2]
      have only : ∀ j, j < i → Tp ho sl (P j) s → j = j0 := fun j hj t => by
        have a := (o1 j hj).1
        have b := (o1 j0 hj0).1
        exact o2 j j0 hj hj0 (Tp_uni t tj (by omega) (by omega))
      refine ⟨fun _ => ⟨is, (in_nI (by omega)).mpr (by omega), fun x21 e21 => ?_⟩, fun y => absurd y (zI_ne (by omega))⟩
      have ex : x21 = nI (num j0) := by rw [e21, ← ej0]; exact hnu j0 hj0
      subst ex
      refine ⟨fun y => absurd y (zI_ne (by omega)), fun _ => ⟨inn, inn, fun sn' esn => ⟨inn, is, sp_only d1 fun r29 h29 => ⟨is, sp_only d2 fun r30 h30 x31 e31 => ⟨inn, fun iN' eiN => ?_⟩⟩⟩⟩⟩
      rw [ix_nI (k := num j0) (by omega)] at esn e31 eiN
      have base : ∀ oe', (∀ e, e ≠ s → oe' e = oe e) → (s < 100 → oe' s = nI (num j0)) → K2 (nI (s + 1)) sn' iN' oe' := fun oe' k1 k2 => nx2 (by omega) _ _ _ ⟨fun j hj => ?_, fun e j he h100 hj t => ?_, fun e he h100 t => ?_⟩
      · refine ⟨fun y => base oe (fun _ _ => rfl) (fun t => absurd t (by omega)), fun y => ⟨iS (by omega), fun oe' eo => base oe' (fun e ne => by rw [eo, upd_ne ne]) (fun _ => by rw [eo, upd_at])⟩⟩
      · obtain ⟨g1, g2⟩ := hJ2.1 j hj
        by_cases e : j = j0
        · subst e
          rw [cnt_succ, pr_t tj, esn, upd_at, g1, eiN, updL_at, e31, zI_succ]
          refine ⟨rfl, fun x => ?_⟩
          rw [bt_or, bt_or, g2, h29, h30]
          constructor
          · rintro (⟨t, ht, k⟩ | k)
            · exact ⟨t, by omega, k⟩
            · exact ⟨s, by omega, tj, k⟩
          · rintro ⟨t, ht, k⟩
            by_cases y : t = s
            · subst y; exact Or.inr k.2
            · exact Or.inl ⟨t, by omega, k⟩
        · have n : num j ≠ num j0 := fun k => e (R.inj hj hj0 k)
          have no : ¬ Tp ho sl (P j) s := fun t => e (only j hj t)
          rw [cnt_succ, pr_f no, esn, upd_ne n, g1, eiN, updL_ne n]
          refine ⟨rfl, fun x => (g2 x).trans ⟨fun ⟨t, ht, k⟩ => ⟨t, by omega, k⟩, fun ⟨t, ht, k⟩ => ⟨t, ?_, k⟩⟩⟩
          have : t ≠ s := fun y => no (y ▸ k.1)
          omega
      · by_cases y : e = s
        · subst y
          rw [k2 h100, only j hj t]
        · rw [k1 e y]; exact hJ2.2.1 e j (by omega) h100 hj t
      · have : e ≠ s := fun y => z (y ▸ t)
        rw [k1 e this]; exact hJ2.2.2 e (by omega) h100 t
/-- the class, from the reduced tree to its nodes -/
theorem sp_classNodes {row above sideUp number least weight kn sn an ln gn oe : Nat → Int32} {iN : Nat → Int64} {oc nc : Int32} {post : (Nat → Int32) → (Nat → Int32) → (Nat → Int32) → (Nat → Int32) → (Nat → Int32) → (Nat → Int32) → Int32 → (Nat → Int32) → (Nat → Int32) → (Nat → Int32) → (Nat → Int32) → (Nat → Int32) → (Nat → Int64) → (Nat → Int32) → Int32 → Prop} (F : FP E I 100 (fun s => s) fe se ho kq sl ct M) (hex : ∃ e, E e)
    (h : ∀ ro ab su nu le we kn sn an ln gn iN oe e0 r c P T par lst wt num, CR E I fe se ho kq sl ct M e0 r c P T par lst wt num → NA fe se ho kq sl c P T par num kn sn an ln gn iN oe → post ro ab su nu le we (nI c) kn sn an ln gn iN oe (nI c)) :
    wp_Order_follow row above sideUp number least weight oc ho (nI sl) (fun ro ab su nu le we c => wp_Nodes_take kn sn an ln gn iN oe nc fe se ho kq (nI sl) ro ab su nu c (fun kn sn an ln gn iN oe nc => post ro ab su nu le we c kn sn an ln gn iN oe nc)) := by
  have c98 := F.ct98
  -- the least edge
  have : ∃ e0, E e0 ∧ ∀ e, e < e0 → ¬ E e := by
    obtain ⟨e, he⟩ := hex
    obtain ⟨q, -, a, b⟩ := least_of (P := E) he
    exact ⟨q, a, b⟩
  obtain ⟨e0, h0, l0⟩ := this
  obtain ⟨s, hs100, ls, es⟩ := F.1.2.2.2.2.2.2.2.2.2 e0 h0
  have es : s = e0 := es
  subst es
  obtain ⟨r, rc, hr⟩ := F.pc ls
  unfold wp_Order_follow
  refine sp_findLeastEdges F h0 l0 hr rc fun row least r0 hl => sp_layRow F h0 hr rc r0 fun i c row above sideUp L ci => ?_
  obtain ⟨T, par, O, hTp⟩ := L.o1 F h0 hr rc ci
  have hrow : ∀ j, j < c → row j = nI (en row j) := fun j hj => (L.1 j hj).1
  have P0 : en row 0 = r := L.2.2.1.2.1
  have ha0 : above (en row 0) = -1 := by rw [P0]; exact L.2.2.1.2.2.1
  have hs0 : sideUp (en row 0) = -1 := by rw [P0]; exact L.2.2.1.2.2.2
  have hab : ∀ j, 1 ≤ j → j < c → above (en row j) = nI (en row (par j)) := fun j a b => (hTp j a b).2
  have hsu : ∀ j, 1 ≤ j → j < c → sideUp (en row j) = nI (T j) := fun j a b => (hTp j a b).1
  refine sp_sumUp F h0 hr O hrow hab hl fun least weight lst wt hlw h4 h5 => ?_
  refine sp_numbers F O h4 h5 hrow ha0 hab hlw fun number num hnu h6 => ?_
  have R : CR E I fe se ho kq sl ct M s r c (en row) T par lst wt num := ⟨F, h0, l0, hr, rc, O, h4, h5, h6⟩
  exact sp_take R hrow ha0 hs0 hab hsu hnu fun kn sn an ln gn iN oe N => h _ _ _ _ _ _ _ _ _ _ _ _ _ _ _ _ _ _ _ _ _ _ R N
end
