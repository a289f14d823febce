/-! PURE PART IX: pieces that do not come apart: their kinds; uniting them -/
def Knd (E : Nat → Prop) (I : Nat → Nat → Prop) (S : Nat → Prop) (h : Nat → Int) (M : Nat → Nat → Prop) (kd : Int → Int) (s : Nat) : Prop :=
  (kd (h s) = 0 ∧ ∀ t, S t → h t = h s → ∀ x, bdy E I (M s) x ↔ bdy E I (M t) x) ∨
    (kd (h s) = 1 ∧ ∀ x t r q, S t → S r → S q → h t = h s → h r = h s → h q = h s → t ≠ r → t ≠ q → r ≠ q → bdy E I (M t) x → bdy E I (M r) x → ¬ bdy E I (M q) x) ∨
    (kd (h s) = 2 ∧ (∀ Q : Nat → Prop, fn E I (fun e => ∃ t, S t ∧ h t = h s ∧ Q t ∧ M t e) ≤ 2 → ∀ t r q w, S t → S r → S q → S w → h t = h s → h r = h s → h q = h s → h w = h s → t ≠ r → q ≠ w → Q t → Q r → ¬ Q q → ¬ Q w → False) ∧
      ∃ t r q, S t ∧ S r ∧ S q ∧ h t = h s ∧ h r = h s ∧ h q = h s ∧ t ≠ s ∧ r ≠ s ∧ q ≠ s ∧ t ≠ r ∧ t ≠ q ∧ r ≠ q)
/-- what is split off comes apart at two points only if the whole does -/
theorem spl_part {T T' : Nat → Prop} {U V U' V' : Nat → Nat} {Q : Nat → Prop} {j u v a b : Nat} (hT : ∀ s, T' s ↔ (T s ∧ ¬ Q s) ∨ s = j) (q2 : ∃ s t, T s ∧ T t ∧ Q s ∧ Q t ∧ s ≠ t)
    (com : ∀ s t x, T s → T t → Q s → ¬ Q t → (x = U s ∨ x = V s) → (x = U t ∨ x = V t) → x = u ∨ x = v) (eU : ∀ s, T s → ¬ Q s → U' s = U s) (eV : ∀ s, T s → ¬ Q s → V' s = V s) (uj : U' j = u) (vj : V' j = v) (hs : Spl T' U' V' a b) : Spl T U V a b := by
  have main : ∀ R : Nat → Prop, ¬ R j → (∃ s t, T' s ∧ T' t ∧ R s ∧ R t ∧ s ≠ t) → (∀ s t x, T' s → T' t → R s → ¬ R t → (x = U' s ∨ x = V' s) → (x = U' t ∨ x = V' t) → x = a ∨ x = b) → Spl T U V a b := by
    intro R nj ⟨s, t, hs, ht, rs, rt, st⟩ c
    obtain ⟨x, y, hx, hy, qx, qy, xy⟩ := q2
    have old : ∀ s, T' s → R s → T s ∧ ¬ Q s := fun s hs rs => ((hT s).mp hs).resolve_right (fun k => nj (k ▸ rs))
    refine ⟨fun s => R s ∧ ¬ Q s, ⟨s, t, (old s hs rs).1, (old t ht rt).1, ⟨rs, (old s hs rs).2⟩, ⟨rt, (old t ht rt).2⟩, st⟩, ⟨x, y, hx, hy, fun k => k.2 qx, fun k => k.2 qy, xy⟩, fun s t x hs ht ks kt xs xt => ?_⟩
    have s' : T' s := (hT s).mpr (Or.inl ⟨hs, ks.2⟩)
    have us := eU s hs ks.2
    have vs := eV s hs ks.2
    by_cases qt : Q t
    · have := com t s x ht hs qt ks.2 xt xs
      exact c s j x s' ((hT j).mpr (Or.inr rfl)) ks.1 nj (by rw [us, vs]; exact xs) (by rw [uj, vj]; exact this)
    · exact c s t x s' ((hT t).mpr (Or.inl ⟨ht, qt⟩)) ks.1 (fun k => kt ⟨k, qt⟩) (by rw [us, vs]; exact xs) (by rw [eU t ht qt, eV t ht qt]; exact xt)
  obtain ⟨R, r2, n2, c⟩ := hs
  by_cases k : R j
  · refine main (fun s => ¬ R s) (fun z => z k) ?_ (Spl_not c)
    exact n2
  · exact main R k r2 c
section
variable {E : Nat → Prop} {I : Nat → Nat → Prop} {S S' : Nat → Prop} {h h' : Nat → Int} {U V U' V' : Nat → Nat} {M : Nat → Nat → Prop} {pt : Nat → Nat} {b : Nat} {w : Nat → Nat} {kd : Int → Int}
theorem bas_end (B : Bas E I S h U V M pt b w) {s x : Nat} (hs : S s) : bdy E I (M s) x ↔ x = U s ∨ x = V s := (B.2.2.2.2.1 s hs).2.2.2 x
theorem bas_two (B : Bas E I S h U V M pt b w) {s y : Nat} (hs : S s) (hy : y = U s ∨ y = V s) : ∃ t, S t ∧ h t = h s ∧ t ≠ s ∧ (y = U t ∨ y = V t) := by
  obtain ⟨b0, b1, b2, b3, b4, -⟩ := id B
  obtain ⟨⟨e, he, me, ie⟩, ⟨e', he', me', ie'⟩⟩ := (bas_end B hs).mpr hy
  obtain ⟨t, ht, et, mt⟩ := b2 s hs e' he'
  have ts : t ≠ s := fun k => me' (k ▸ mt)
  exact ⟨t, ht, et, ts, (bas_end B ht).mp ⟨⟨e', he', mt, ie'⟩, ⟨e, he, b1 s t hs ht et.symm (fun k => ts k.symm) e he me, ie⟩⟩⟩
/-- a cut along the slots of a piece, with two points, parts the piece there -/
theorem cut_spl (h2 : Two E I) (B : Bas E I S h U V M pt b w) {p : Int} {Q : Nat → Prop} {t r q z : Nat} (hf : fn E I (fun e => ∃ t, S t ∧ h t = p ∧ Q t ∧ M t e) ≤ 2) (ht : S t) (hr : S r) (hq : S q) (hz : S z) (et : h t = p) (er : h r = p) (eq : h q = p) (ez : h z = p) (tr : t ≠ r) (qz : q ≠ z) (qt : Q t) (qr : Q r) (nq : ¬ Q q) (nz : ¬ Q z) :
    ∃ u v, u < v ∧ v < 40 ∧ Spl (fun s => S s ∧ h s = p) U V u v := by
  obtain ⟨b0, b1, b2, b3, b4, -⟩ := id B
  obtain ⟨e1, he1, m1⟩ := b3 t ht
  obtain ⟨e2, he2, m2⟩ := b3 q hq
  have a := h2 (fun e => ∃ t, S t ∧ h t = p ∧ Q t ∧ M t e) ⟨e1, he1, t, ht, et, qt, m1⟩ ⟨e2, he2, fun ⟨s, hs, es, qs, ms⟩ => b1 q s hq hs (eq.trans es.symm) (fun k => nq (k ▸ qs)) e2 he2 m2 ms⟩
  obtain ⟨u, v, uv, hv, -, -, all⟩ := cnt_two (n := 40) (P := bdy E I (fun e => ∃ t, S t ∧ h t = p ∧ Q t ∧ M t e)) (by unfold fn at a hf; omega)
  refine ⟨u, v, uv, hv, Q, ⟨t, r, ⟨ht, et⟩, ⟨hr, er⟩, qt, qr, tr⟩, ⟨q, z, ⟨hq, eq⟩, ⟨hz, ez⟩, nq, nz, qz⟩, fun s s' x hs hs' qs qs' k k' => ?_⟩
  have ss : s ≠ s' := fun z => qs' (z ▸ qs)
  obtain ⟨⟨e, he, me, ie⟩, -⟩ := (bas_end B hs.1).mpr k
  obtain ⟨⟨e', he', me', ie'⟩, -⟩ := (bas_end B hs'.1).mpr k'
  have x40 : x < 40 := by have := b4 s hs.1; omega
  refine all x x40 ⟨⟨e, he, ⟨s, hs.1, hs.2, qs, me⟩, ie⟩, ⟨e', he', ?_, ie'⟩⟩
  rintro ⟨y, hy, ey, qy, my⟩
  exact b1 s' y hs'.1 hy (hs'.2.trans ey.symm) (fun k => qs' (k ▸ qy)) e' he' me' my
theorem third {a b c x y : Nat} (h1 : a ≠ b) (h2 : c ≠ a) (h3 : c ≠ b) (xy : x ≠ y) : ∃ z, (z = a ∨ z = b ∨ z = c) ∧ z ≠ x ∧ z ≠ y := by
  by_cases k : a ≠ x ∧ a ≠ y
  · exact ⟨a, Or.inl rfl, k⟩
  by_cases l : b ≠ x ∧ b ≠ y
  · exact ⟨b, Or.inr (Or.inl rfl), l⟩
  · exact ⟨c, Or.inr (Or.inr rfl), by omega, by omega⟩
theorem end40 {x u v : Nat} (k : x = u ∨ x = v) (hu : u < 40) (hv : v < 40) : x < 40 := by omega
theorem no_end {x u v : Nat} (k : x = u ∨ x = v) (hu : x ≠ u) (hv : x ≠ v) : False := by omega
theorem four_end {a c d u v : Nat} (h1 : a ≠ c) (h2 : a ≠ d) (h3 : c ≠ d) (k1 : a = u ∨ a = v) (k2 : c = u ∨ c = v) (k3 : d = u ∨ d = v) : False := by omega
theorem eq_two {a b c d x : Nat} (h1 : c = a ∨ c = b) (h2 : d = a ∨ d = b) (h3 : d ≠ c) (h : x = a ∨ x = b) : x = c ∨ x = d := by omega
theorem pig3 {a b c x y1 y2 y3 : Nat} (ox : x = a ∨ x = b ∨ x = c) (o1 : y1 = a ∨ y1 = b ∨ y1 = c) (o2 : y2 = a ∨ y2 = b ∨ y2 = c) (o3 : y3 = a ∨ y3 = b ∨ y3 = c) (n1 : x ≠ y1) (n2 : x ≠ y2) (n3 : x ≠ y3) (p : ¬ y1 = y2) (q : ¬ y1 = y3) : y2 = y3 := by omega
/-- two parallel slots part a piece with a third point -/
theorem par_spl (B : Bas E I S h U V M pt b w) {t r x y z a : Nat} (ht : S t) (hr : S r) (e : h t = h r) (tr : t ≠ r) (xt : x = U t ∨ x = V t) (xr : x = U r ∨ x = V r) (yt : y = U t ∨ y = V t) (yr : y = U r ∨ y = V r) (xy : x ≠ y) (ha : S a) (ea : h a = h t) (ka : z = U a ∨ z = V a) (zx : z ≠ x) (zy : z ≠ y) : Spl (fun s => S s ∧ h s = h t) U V x y := by
  obtain ⟨a', ha', ea', aa', ka'⟩ := bas_two B ha ka
  have e1 : ∀ q, (x = U q ∨ x = V q) → (y = U q ∨ y = V q) → (x = U q ∧ y = V q) ∨ (x = V q ∧ y = U q) := fun q k l => by omega
  have t1 := e1 t xt yt
  have r1 := e1 r xr yr
  clear xt xr yt yr e1
  refine ⟨fun q => q = t ∨ q = r, ⟨t, r, ⟨ht, rfl⟩, ⟨hr, e.symm⟩, Or.inl rfl, Or.inr rfl, tr⟩, ⟨a, a', ⟨ha, ea⟩, ⟨ha', ea'.trans ea⟩, ?_, ?_, fun k => aa' k.symm⟩, fun p p' y' _ _ k _ k2 _ => ?_⟩
  · rintro (rfl | rfl) <;> omega
  · rintro (rfl | rfl) <;> omega
  · rcases k with rfl | rfl <;> omega
/-- a piece of two points is a bond; else, if it never comes apart, of three a ring, of more rigid -/
theorem knd_of (h2 : Two E I) (B : Bas E I S h U V M pt b w) {s : Nat} (hs : S s) (hno : cnt 40 (fun x => ∃ t, S t ∧ h t = h s ∧ (x = U t ∨ x = V t)) ≠ 2 → ∀ u v, u < v → v < 40 → ¬ Spl (fun t => S t ∧ h t = h s) U V u v)
    (hk : kd (h s) = if cnt 40 (fun x => ∃ t, S t ∧ h t = h s ∧ (x = U t ∨ x = V t)) = 2 then 0 else if cnt 40 (fun x => ∃ t, S t ∧ h t = h s ∧ (x = U t ∨ x = V t)) = 3 then 1 else 2) : Knd E I S h M kd s := by
  obtain ⟨b0, b1, b2, b3, b4, b5, -⟩ := id B
  have e40 : ∀ t, S t → U t < 40 ∧ V t < 40 ∧ U t ≠ V t := fun t ht => ⟨(b4 t ht).1, (b4 t ht).2.1, (b4 t ht).2.2.1⟩
  by_cases c2 : cnt 40 (fun x => ∃ t, S t ∧ h t = h s ∧ (x = U t ∨ x = V t)) = 2
  · rw [if_pos c2] at hk
    refine Or.inl ⟨hk, fun t ht et x => ?_⟩
    obtain ⟨u, v, uv, hv, -, -, all⟩ := cnt_two c2
    have a := all (U s) (e40 s hs).1 ⟨s, hs, rfl, Or.inl rfl⟩
    have b := all (V s) (e40 s hs).2.1 ⟨s, hs, rfl, Or.inr rfl⟩
    have c := all (U t) (e40 t ht).1 ⟨t, ht, et, Or.inl rfl⟩
    have d := all (V t) (e40 t ht).2.1 ⟨t, ht, et, Or.inr rfl⟩
    have := (e40 s hs).2.2
    have := (e40 t ht).2.2
    rw [bas_end B hs, bas_end B ht]
    omega
  rw [if_neg c2] at hk
  have no := hno c2
  have big2 : ∀ Q : Nat → Prop, fn E I (fun e => ∃ t, S t ∧ h t = h s ∧ Q t ∧ M t e) ≤ 2 → ∀ t r q w, S t → S r → S q → S w → h t = h s → h r = h s → h q = h s → h w = h s → t ≠ r → q ≠ w → Q t → Q r → ¬ Q q → ¬ Q w → False := fun Q hf t r q z ht hr hq hz et er eq ez tr qz qt qr nq nz => by
    obtain ⟨u, v, uv, hv, k⟩ := cut_spl h2 B hf ht hr hq hz et er eq ez tr qz qt qr nq nz
    exact no u v uv hv k
  have pU : ∃ t, S t ∧ h t = h s ∧ (U s = U t ∨ U s = V t) := ⟨s, hs, rfl, Or.inl rfl⟩
  have pV : ∃ t, S t ∧ h t = h s ∧ (V s = U t ∨ V s = V t) := ⟨s, hs, rfl, Or.inr rfl⟩
  have r1 := cnt_rem (P := fun x => ∃ t, S t ∧ h t = h s ∧ (x = U t ∨ x = V t)) (e40 s hs).1 pU
  have r2 := cnt_rem (P := fun x => (∃ t, S t ∧ h t = h s ∧ (x = U t ∨ x = V t)) ∧ x ≠ U s) (e40 s hs).2.1 ⟨pV, fun k => (e40 s hs).2.2 k.symm⟩
  obtain ⟨c, hc, ⟨⟨tc, htc, etc, ktc⟩, cu⟩, cv⟩ := cnt_some (n := 40) (P := fun x => ((∃ t, S t ∧ h t = h s ∧ (x = U t ∨ x = V t)) ∧ x ≠ U s) ∧ x ≠ V s) (by omega)
  have r3 := cnt_rem (P := fun x => ((∃ t, S t ∧ h t = h s ∧ (x = U t ∨ x = V t)) ∧ x ≠ U s) ∧ x ≠ V s) hc ⟨⟨⟨tc, htc, etc, ktc⟩, cu⟩, cv⟩
  by_cases c3 : cnt 40 (fun x => ∃ t, S t ∧ h t = h s ∧ (x = U t ∨ x = V t)) = 3
  · rw [if_pos c3] at hk
    refine Or.inr (Or.inl ⟨hk, fun x t r q ht hr hq et er eq tr tq rq xt xr xq => ?_⟩)
    rw [bas_end B ht] at xt
    rw [bas_end B hr] at xr
    rw [bas_end B hq] at xq
    -- three points only
    have only3 : ∀ y, y < 40 → (∃ t, S t ∧ h t = h s ∧ (y = U t ∨ y = V t)) → y = U s ∨ y = V s ∨ y = c := fun y hy k => by
      by_cases z : y = U s ∨ y = V s ∨ y = c
      · exact z
      · have := cnt_zero (n := 40) (P := fun x => (((∃ t, S t ∧ h t = h s ∧ (x = U t ∨ x = V t)) ∧ x ≠ U s) ∧ x ≠ V s) ∧ x ≠ c) (by omega) hy
        exact absurd ⟨⟨⟨k, by omega⟩, by omega⟩, by omega⟩ this
    have par : ∀ t r y, S t → S r → h t = h s → h r = h s → t ≠ r → (x = U t ∨ x = V t) → (x = U r ∨ x = V r) → (y = U t ∨ y = V t) → (y = U r ∨ y = V r) → x ≠ y → False := fun t r y ht hr et er tr xt xr yt yr xy => by
      have z := third (e40 s hs).2.2 cu cv xy
      obtain ⟨z, kz, zx, zy⟩ := z
      have hz : ∃ t, S t ∧ h t = h s ∧ (z = U t ∨ z = V t) := by
        rcases kz with rfl | rfl | rfl
        · exact pU
        · exact pV
        · exact ⟨tc, htc, etc, ktc⟩
      obtain ⟨a, ha, ea, ka⟩ := hz
      have sp := par_spl B ht hr (et.trans er.symm) tr xt xr yt yr xy ha (ea.trans et.symm) ka zx zy
      rw [et] at sp
      have y40 : y < 40 := end40 yt (e40 t ht).1 (e40 t ht).2.1
      have x40 : x < 40 := end40 xt (e40 t ht).1 (e40 t ht).2.1
      rcases Nat.lt_or_gt_of_ne xy with k | k
      · exact no x y k y40 sp
      · exact no y x k x40 (Spl_symm sp)
    -- the other ends
    have oe : ∀ t, S t → h t = h s → (x = U t ∨ x = V t) → ∃ y, x ≠ y ∧ (y = U t ∨ y = V t) ∧ (y = U s ∨ y = V s ∨ y = c) := fun t ht et k => by
      have := e40 t ht
      rcases k with k | k
      · exact ⟨V t, by omega, Or.inr rfl, only3 _ this.2.1 ⟨t, ht, et, Or.inr rfl⟩⟩
      · exact ⟨U t, by omega, Or.inl rfl, only3 _ this.1 ⟨t, ht, et, Or.inl rfl⟩⟩
    obtain ⟨y1, n1, k1, o1⟩ := oe t ht et xt
    obtain ⟨y2, n2, k2, o2⟩ := oe r hr er xr
    obtain ⟨y3, n3, k3, o3⟩ := oe q hq eq xq
    have ox := only3 x (end40 xt (e40 t ht).1 (e40 t ht).2.1) ⟨t, ht, et, xt⟩
    by_cases a : y1 = y2
    · exact par t r y1 ht hr et er tr xt xr k1 (a ▸ k2) n1
    by_cases b : y1 = y3
    · exact par t q y1 ht hq et eq tq xt xq k1 (b ▸ k3) n1
    have : y2 = y3 := pig3 ox o1 o2 o3 n1 n2 n3 a b
    exact par r q y2 hr hq er eq rq xr xq k2 (this ▸ k3) n2
  · rw [if_neg c3] at hk
    refine Or.inr (Or.inr ⟨hk, big2, ?_⟩)
    obtain ⟨d, hd, ⟨⟨⟨td, htd, etd, ktd⟩, du⟩, dv⟩, dc⟩ := cnt_some (n := 40) (P := fun x => (((∃ t, S t ∧ h t = h s ∧ (x = U t ∨ x = V t)) ∧ x ≠ U s) ∧ x ≠ V s) ∧ x ≠ c) (by omega)
    obtain ⟨tc', htc', etc', ntc, ktc'⟩ := bas_two B htc ktc
    have s1 : tc ≠ s := fun k => no_end (k ▸ ktc) cu cv
    have s2 : tc' ≠ s := fun k => no_end (k ▸ ktc') cu cv
    have s3 : td ≠ s := fun k => no_end (k ▸ ktd) du dv
    clear r1 r2 r3 hk c2 c3
    by_cases z1 : td = tc ∨ td = tc'
    · obtain ⟨td', htd', etd', ntd, ktd'⟩ := bas_two B htd ktd
      have s4 : td' ≠ s := fun k => no_end (k ▸ ktd') du dv
      by_cases z2 : td' = tc ∨ td' = tc'
      · obtain ⟨ta, hta, eta, nta, kta⟩ := bas_two B hs (Or.inl rfl : U s = U s ∨ U s = V s)
        have cd : ∀ q, (U s = U q ∨ U s = V q) → (c = U q ∨ c = V q) → ¬ (d = U q ∨ d = V q) := fun q k1 k2 k3 => four_end (fun k => cu k.symm) (fun k => du k.symm) (fun k => dc k.symm) k1 k2 k3
        have y1 : ta ≠ tc := fun k => by
          have : tc = td ∨ tc = td' := eq_two z1 z2 ntd (Or.inl rfl)
          rcases this with y | y
          · exact cd tc (k ▸ kta) ktc (y ▸ ktd)
          · exact cd tc (k ▸ kta) ktc (y ▸ ktd')
        have y2 : ta ≠ tc' := fun k => by
          have : tc' = td ∨ tc' = td' := eq_two z1 z2 ntd (Or.inr rfl)
          rcases this with y | y
          · exact cd tc' (k ▸ kta) ktc' (y ▸ ktd)
          · exact cd tc' (k ▸ kta) ktc' (y ▸ ktd')
        exact ⟨tc, tc', ta, htc, htc', hta, etc, etc'.trans etc, eta, s1, s2, nta, fun k => ntc k.symm, fun k => y1 k.symm, fun k => y2 k.symm⟩
      · exact ⟨tc, tc', td', htc, htc', htd', etc, etc'.trans etc, etd'.trans etd, s1, s2, s4, fun k => ntc k.symm, fun k => z2 (Or.inl k.symm), fun k => z2 (Or.inr k.symm)⟩
    · exact ⟨tc, tc', td, htc, htc', htd, etc, etc'.trans etc, etd, s1, s2, s3, fun k => ntc k.symm, fun k => z1 (Or.inl k.symm), fun k => z1 (Or.inr k.symm)⟩
/-- uniting two bonds or two rings -/
theorem knd_merge (B : Bas E I S h U V M pt b w) {j j' : Nat} (hj : S j) (hj' : S j') (bj : b ≤ j) (pj : pt j = j') (eS : ∀ s, S' s ↔ S s ∧ s ≠ j ∧ s ≠ j')
    (eq1 : ∀ s, S' s → h s = h j' → h' s = h j) (eq0 : ∀ s, S' s → h s ≠ h j' → h' s = h s) (hk : kd (h j) = kd (h j')) (h2k : kd (h j) ≠ 2) (K : ∀ s, S s → Knd E I S h M kd s) : ∀ s, S' s → Knd E I S' h' M kd s := by
  obtain ⟨b0, b1, b2, b3, b4, b5, b6, -⟩ := id B
  obtain ⟨c1, c2, c3⟩ := b6 j hj bj
  rw [pj] at c2 c3
  have old : ∀ s, S' s → S s := fun s hs => ((eS s).mp hs).1
  -- the piece of a slot now
  have kk : ∀ s, S' s → kd (h' s) = kd (h s) := fun s hs => by
    by_cases z : h s = h j'
    · rw [eq1 s hs z, z, hk]
    · rw [eq0 s hs z]
  have back : ∀ s t, S' s → S' t → h' t = h' s → h t = h s ∨ ((h t = h j ∨ h t = h j') ∧ (h s = h j ∨ h s = h j')) := fun s t hs ht k => by
    by_cases z : h s = h j' <;> by_cases y : h t = h j'
    · exact Or.inl (y.trans z.symm)
    · rw [eq1 s hs z, eq0 t ht y] at k; exact Or.inr ⟨Or.inl k, Or.inr z⟩
    · rw [eq0 s hs z, eq1 t ht y] at k; exact Or.inr ⟨Or.inr y, Or.inl k.symm⟩
    · rw [eq0 s hs z, eq0 t ht y] at k; exact Or.inl k
  have forth : ∀ s t, S' s → S' t → h t = h s → h' t = h' s := fun s t hs ht k => by
    by_cases z : h s = h j'
    · rw [eq1 s hs z, eq1 t ht (k.trans z)]
    · rw [eq0 s hs z, eq0 t ht (fun y => z (k.symm.trans y))]; exact k
  -- an end of a slot of the one and of a slot of the other is an end of the joint
  have via : ∀ s t x, S s → S t → h s = h j → h t = h j' → s ≠ j → t ≠ j' → bdy E I (M s) x → bdy E I (M t) x → bdy E I (M j) x ∧ bdy E I (M j') x := fun s t x hs ht es et sj tj xs xt => by
    obtain ⟨⟨e, he, me, ie⟩, -⟩ := xs
    obtain ⟨⟨e', he', me', ie'⟩, -⟩ := xt
    have m1 : ¬ M j e := b1 s j hs hj es sj e he me
    have m2 : ¬ M j' e' := b1 t j' ht hj' et tj e' he' me'
    have m3 : M j' e := (c3 e he).mpr m1
    have m4 : M j e' := Classical.byContradiction fun k => m2 ((c3 e' he').mpr k)
    exact ⟨⟨⟨e', he', m4, ie'⟩, ⟨e, he, m1, ie⟩⟩, ⟨⟨e, he, m3, ie⟩, ⟨e', he', m2, ie'⟩⟩⟩
  have ends : ∀ x, bdy E I (M j) x ↔ bdy E I (M j') x := fun x => (bdy_not (E := E) (I := I) (X := M j) x).symm.trans (bdy_congr (fun e he => (c3 e he).symm) x)
  intro s hs
  have ne : ∀ t, S' t → t ≠ j ∧ t ≠ j' := fun t ht => ((eS t).mp ht).2
  have hjj : h j ≠ h j' := fun k => c2 k.symm
  by_cases z : h s = h j ∨ h s = h j'
  · -- the united piece
    have in2 : ∀ t, S' t → h' t = h' s → h t = h j ∨ h t = h j' := fun t ht k => by
      rcases back s t hs ht k with y | y
      · rw [y]; exact z
      · exact y.1
    have ks : kd (h' s) = kd (h j) := by
      rw [kk s hs]
      rcases z with z | z
      · rw [z]
      · rw [z, hk]
    rcases K j hj with ⟨k0, kb⟩ | ⟨k1, kr⟩ | ⟨k2, -⟩
    · rcases K j' hj' with ⟨k0', kb'⟩ | ⟨k1', -⟩ | ⟨k2', -⟩
      · refine Or.inl ⟨ks.trans k0, fun t ht et x => ?_⟩
        have all : ∀ t, S' t → (h t = h j ∨ h t = h j') → ∀ x, bdy E I (M t) x ↔ bdy E I (M j) x := fun t ht k x => by
          rcases k with k | k
          · exact (kb t (old t ht) k x).symm
          · exact (kb' t (old t ht) k x).symm.trans (ends x).symm
        exact (all s hs z x).trans (all t ht (in2 t ht et) x).symm
      · omega
      · omega
    · rcases K j' hj' with ⟨k0', -⟩ | ⟨k1', kr'⟩ | ⟨k2', -⟩
      · omega
      · refine Or.inr (Or.inl ⟨ks.trans k1, fun x t r q ht hr hq et er eq tr tq rq xt xr xq => ?_⟩)
        have i1 := in2 t ht et
        have i2 := in2 r hr er
        have i3 := in2 q hq eq
        have two : ∀ t r q, S' t → S' r → S' q → t ≠ r → bdy E I (M t) x → bdy E I (M r) x → bdy E I (M q) x → h t = h j → h r = h j → h q = h j' → False := fun t r q ht hr hq tr xt xr xq a b c =>
          kr x t r j (old t ht) (old r hr) hj a b rfl tr (ne t ht).1 (ne r hr).1 xt xr (via t q x (old t ht) (old q hq) a c (ne t ht).1 (ne q hq).2 xt xq).1
        have two' : ∀ t r q, S' t → S' r → S' q → t ≠ r → bdy E I (M t) x → bdy E I (M r) x → bdy E I (M q) x → h t = h j' → h r = h j' → h q = h j → False := fun t r q ht hr hq tr xt xr xq a b c =>
          kr' x t r j' (old t ht) (old r hr) hj' a b rfl tr (ne t ht).2 (ne r hr).2 xt xr (via q t x (old q hq) (old t ht) c a (ne q hq).1 (ne t ht).2 xq xt).2
        rcases i1 with i1 | i1 <;> rcases i2 with i2 | i2 <;> rcases i3 with i3 | i3
        · exact kr x t r q (old t ht) (old r hr) (old q hq) i1 i2 i3 tr tq rq xt xr xq
        · exact two t r q ht hr hq tr xt xr xq i1 i2 i3
        · exact two t q r ht hq hr tq xt xq xr i1 i3 i2
        · exact two' r q t hr hq ht rq xr xq xt i2 i3 i1
        · exact two r q t hr hq ht rq xr xq xt i2 i3 i1
        · exact two' t q r ht hq hr tq xt xq xr i1 i3 i2
        · exact two' t r q ht hr hq tr xt xr xq i1 i2 i3
        · exact kr' x t r q (old t ht) (old r hr) (old q hq) i1 i2 i3 tr tq rq xt xr xq
      · omega
    · exact absurd k2 h2k
  · -- a piece that stays as it was
    have z1 : h s ≠ h j' := fun k => z (Or.inr k)
    have same : ∀ t, S' t → (h' t = h' s ↔ h t = h s) := fun t ht => ⟨fun k => (back s t hs ht k).resolve_right (fun y => z y.2), forth s t hs ht⟩
    have all : ∀ t, S t → h t = h s → S' t := fun t ht et => (eS t).mpr ⟨ht, fun k => z (Or.inl (by rw [← et, k])), fun k => z (Or.inr (by rw [← et, k]))⟩
    rcases K s (old s hs) with ⟨k0, kb⟩ | ⟨k1, kr⟩ | ⟨k2, kg, t, r, q, ht, hr, hq, et, er, eq, d⟩
    · exact Or.inl ⟨(kk s hs).trans k0, fun t ht et x => kb t (old t ht) ((same t ht).mp et) x⟩
    · exact Or.inr (Or.inl ⟨(kk s hs).trans k1, fun x t r q ht hr hq et er eq => kr x t r q (old t ht) (old r hr) (old q hq) ((same t ht).mp et) ((same r hr).mp er) ((same q hq).mp eq)⟩)
    · refine Or.inr (Or.inr ⟨(kk s hs).trans k2, fun Q hf t r q w ht hr hq hw et er eq ew => ?_, t, r, q, all t ht et, all r hr er, all q hq eq, (same t (all t ht et)).mpr et, (same r (all r hr er)).mpr er, (same q (all q hq eq)).mpr eq, d⟩)
      refine kg Q ?_ t r q w (old t ht) (old r hr) (old q hq) (old w hw) ((same t ht).mp et) ((same r hr).mp er) ((same q hq).mp eq) ((same w hw).mp ew)
      rw [fn_congr (Y := fun e => ∃ t, S' t ∧ h' t = h' s ∧ Q t ∧ M t e) (fun e _ => ⟨fun ⟨t, ht, et, k⟩ => ⟨t, all t ht et, (same t (all t ht et)).mpr et, k⟩, fun ⟨t, ht, et, k⟩ => ⟨t, old t ht, (same t ht).mp et, k⟩⟩)]
      exact hf
theorem bas_dec (B : Bas E I S h U V M pt b w) (K : ∀ s, S s → Knd E I S h M kd s) (J : ∀ s, S s → b ≤ s → ¬ (kd (h s) = kd (h (pt s)) ∧ kd (h s) ≠ 2)) : Dec E I S h M pt kd := by
  obtain ⟨b0, b1, b2, b3, b4, b5, b6, b7, b8, b9⟩ := id B
  refine ⟨b0, b1, b2, b3, fun s hs => bas_fn (b4 s hs).1 (b4 s hs).2.1 (b4 s hs).2.2.1 (b4 s hs).2.2.2, b5, fun s hs => ?_, b7, K, fun e he => ?_⟩
  · by_cases z : s < b
    · obtain ⟨a, c⟩ := b8 s hs z
      exact Or.inl ⟨w s, a, c⟩
    · obtain ⟨a, c, d⟩ := b6 s hs (by omega)
      exact Or.inr ⟨a, c, d, J s hs (by omega)⟩
  · obtain ⟨s, hb, hs, es⟩ := b9 e he
    exact ⟨s, hs, fun e' he' => by rw [(b8 s hs hb).2 e' he', es]⟩
end
