/-! PURE PART VI: counters, indices, and longs as sets of points -/
theorem zI_toInt {k : Nat} (h : k < 2147483648) : (nI k).toInt = (k : Int) := by
  unfold nI
  rw [Int32.toInt_ofNat']
  exact Int.bmod_eq_of_le (by simp only [Int32.size]; omega) (by simp only [Int32.size]; omega)
theorem ix_eq (x : Int32) : ix x = x.toInt.toNat := rfl
theorem ix_nI {k : Nat} (h : k < 2147483648) : ix (nI k) = k := by rw [ix_eq, zI_toInt h]; rfl
theorem zI_le {j k : Nat} (hj : j < 2147483648) (hk : k < 2147483648) : nI j ≤ nI k ↔ j ≤ k := by
  rw [Int32.le_iff_toInt_le, zI_toInt hj, zI_toInt hk]; omega
theorem zI_lt {j k : Nat} (hj : j < 2147483648) (hk : k < 2147483648) : nI j < nI k ↔ j < k := by
  rw [Int32.lt_iff_toInt_lt, zI_toInt hj, zI_toInt hk]; omega
theorem zI_eq {j k : Nat} (hj : j < 2147483648) (hk : k < 2147483648) : nI j = nI k ↔ j = k := by
  rw [← Int32.toInt_inj, zI_toInt hj, zI_toInt hk]; omega
theorem zI_add (j k : Nat) : nI j + nI k = nI (j + k) := by
  unfold nI; rw [Int32.ofNat_add]
theorem zI_succ (k : Nat) : nI k + 1 = nI (k + 1) := zI_add k 1
theorem zI_two (k : Nat) : nI k + 2 = nI (k + 2) := zI_add k 2
theorem zI_mul (j k : Nat) : nI j * nI k = nI (j * k) := by
  unfold nI; rw [Int32.ofNat_mul]
theorem zI_dbl (k : Nat) : 2 * nI k = nI (2 * k) := zI_mul 2 k
theorem zI_sub {j k : Nat} (h : k ≤ j) : nI j - nI k = nI (j - k) := by
  have : nI (j - k) + nI k = nI j := by rw [zI_add]; congr 1; omega
  rw [← this]
  exact Int32.add_sub_cancel _ _
theorem zI_pred {j : Nat} (h : 1 ≤ j) : nI j - 1 = nI (j - 1) := zI_sub h
theorem n1_toInt : (-1 : Int32).toInt = -1 := by decide
theorem zI_ne {k : Nat} (h : k < 2147483648) : nI k ≠ -1 := fun q => by
  have := congrArg Int32.toInt q
  rw [zI_toInt h, n1_toInt] at this; omega
theorem zI_nn {k : Nat} (h : k < 2147483648) : ¬ nI k < 0 := by
  rw [Int32.lt_iff_toInt_lt, zI_toInt h, Int32.toInt_zero]; omega
theorem in_nI {k n : Nat} (h : k < 2147483648) : vp_in (nI k) n ↔ k < n := by
  have e : (nI k).toNatClampNeg = k := ix_nI h
  unfold vp_in
  rw [e]
  have := zI_nn h
  constructor
  · intro q; omega
  · intro q z; rcases z with z | z
    · exact this z
    · omega
theorem zI_of {x : Int32} (h : ¬ x < 0) : x = nI (ix x) ∧ ix x < 2147483648 := by
  rw [Int32.lt_iff_toInt_lt, Int32.toInt_zero] at h
  have b := Int32.toInt_lt x
  have c : ix x < 2147483648 := by rw [ix_eq]; omega
  refine ⟨?_, c⟩
  rw [← Int32.toInt_inj, zI_toInt c, ix_eq]; omega
theorem of_in {x : Int32} {n : Nat} (h : vp_in x n) : x = nI (ix x) ∧ ix x < n := by
  unfold vp_in at h
  have a := zI_of (x := x) (fun k => h (Or.inl k))
  exact ⟨a.1, Nat.lt_of_not_le fun k => h (Or.inr k)⟩
theorem L0 : (0 : Int32) = nI 0 := rfl
theorem L1 : (1 : Int32) = nI 1 := rfl
theorem L2 : (2 : Int32) = nI 2 := rfl
theorem L3 : (3 : Int32) = nI 3 := rfl
theorem L40 : (40 : Int32) = nI 40 := rfl
theorem L98 : (98 : Int32) = nI 98 := rfl
theorem L99 : (99 : Int32) = nI 99 := rfl
theorem L100 : (100 : Int32) = nI 100 := rfl
theorem upd_at {f : Nat → Int32} {k : Nat} {x : Int32} : upd f k x k = x := if_pos rfl
theorem upd_ne {f : Nat → Int32} {k j : Nat} {x : Int32} (h : j ≠ k) : upd f k x j = f j := if_neg h
theorem updL_at {f : Nat → Int64} {k : Nat} {x : Int64} : vp_updL f k x k = x := if_pos rfl
theorem updL_ne {f : Nat → Int64} {k j : Nat} {x : Int64} (h : j ≠ k) : vp_updL f k x j = f j := if_neg h
theorem cmp0 (x y : Int64) : lg_cmp x y = 0 ↔ x = y := by
  unfold lg_cmp
  by_cases a : x > y
  · rw [if_pos a]
    constructor
    · intro q; exact absurd q (by decide)
    · intro q; subst q; exact absurd a Int64.lt_irrefl
  · rw [if_neg a]
    by_cases b : x = y
    · rw [if_pos b]; exact ⟨fun _ => b, fun _ => rfl⟩
    · rw [if_neg b]; exact ⟨fun q => absurd q (by decide), fun q => absurd q b⟩
/-- point p is in the set x -/
def bt (x : Int64) (p : Nat) : Prop := x.toBitVec.getLsbD p = true
theorem bt_or (x y : Int64) (p : Nat) : bt (x ||| y) p ↔ bt x p ∨ bt y p := by
  unfold bt; rw [Int64.toBitVec_or, BitVec.getLsbD_or, Bool.or_eq_true]
theorem bt_and (x y : Int64) (p : Nat) : bt (x &&& y) p ↔ bt x p ∧ bt y p := by
  unfold bt; rw [Int64.toBitVec_and, BitVec.getLsbD_and, Bool.and_eq_true]
theorem bt_not (x : Int64) {p : Nat} (hp : p < 64) : bt (x ^^^ (-1)) p ↔ ¬ bt x p := by
  unfold bt
  rw [Int64.toBitVec_xor, BitVec.getLsbD_xor]
  have : ((-1 : Int64).toBitVec).getLsbD p = true := by
    have : (-1 : Int64).toBitVec = BitVec.allOnes 64 := by decide
    rw [this, BitVec.getLsbD_allOnes]; simpa using hp
  rw [this]
  cases x.toBitVec.getLsbD p <;> simp
theorem bt_lt {x : Int64} {p : Nat} (h : bt x p) : p < 64 := Classical.byContradiction fun q => by
  unfold bt at h
  rw [BitVec.getLsbD_of_ge _ _ (by omega)] at h; cases h
theorem bt_ext {x y : Int64} (h : ∀ p, bt x p ↔ bt y p) : x = y := by
  have : x.toBitVec = y.toBitVec := BitVec.eq_of_getLsbD_eq fun i hi => by
    have := h i
    unfold bt at this
    cases a : x.toBitVec.getLsbD i <;> cases b : y.toBitVec.getLsbD i <;> simp_all
  exact Int64.toBitVec_inj.mp this
theorem bt_zero (p : Nat) : ¬ bt 0 p := by
  unfold bt
  have : (0 : Int64).toBitVec = 0#64 := rfl
  rw [this, BitVec.getLsbD_zero]; simp
theorem bt_ne {x : Int64} (h : x ≠ 0) : ∃ p, bt x p := Classical.byContradiction fun q => h (bt_ext fun p => ⟨fun k => absurd ⟨p, k⟩ q, fun k => absurd k (bt_zero p)⟩)
theorem only_pow : ∀ p : Nat, p < 40 → ((1 : Int64) <<< ((nI p).toInt64 &&& 63)).toBitVec = BitVec.twoPow 64 p := by decide
theorem bt_only {p : Nat} (hp : p < 40) (q : Nat) : bt ((1 : Int64) <<< ((nI p).toInt64 &&& 63)) q ↔ q = p := by
  unfold bt
  rw [only_pow p hp, BitVec.getLsbD_twoPow]
  simp; omega
theorem sp_only {p : Nat} (hp : p < 40) {post : Int64 → Prop} (h : ∀ r, (∀ q, bt r q ↔ q = p) → post r) : wp_Tree_only (nI p) post := h _ (bt_only hp)
theorem sp_holds {x : Int64} {p : Nat} (hp : p < 40) {post : Int32 → Prop} (h1 : bt x p → post 1) (h0 : ¬ bt x p → post 0) : wp_Tree_holds x (nI p) post := by
  refine sp_only hp fun r hr => ?_
  have e : x &&& r = 0 ↔ ¬ bt x p := ⟨fun k z => bt_zero p (k ▸ (bt_and x r p).mpr ⟨z, (hr p).mpr rfl⟩), fun k => bt_ext fun q => by
    rw [bt_and, hr]
    exact ⟨fun ⟨a, b⟩ => absurd (b ▸ a) k, fun a => absurd a (bt_zero q)⟩⟩
  rw [cmp0, e]
  exact ⟨h0, fun k => h1 (Classical.byContradiction k)⟩
theorem bt_low (x : Int64) (p : Nat) : bt (x &&& (-x)) p ↔ bt x p ∧ ∀ q, q < p → ¬ bt x q := by
  rw [bt_and]
  constructor
  · rintro ⟨a, b⟩
    refine ⟨a, fun q hq k => ?_⟩
    have hp := bt_lt a
    unfold bt at a b k
    rw [Int64.toBitVec_neg, BitVec.getLsbD_neg, a] at b
    have : (∃ j, j < p ∧ x.toBitVec.getLsbD j = true) := ⟨q, hq, k⟩
    simp [hp, this] at b
  · rintro ⟨a, b⟩
    refine ⟨a, ?_⟩
    have hp := bt_lt a
    unfold bt at a b ⊢
    rw [Int64.toBitVec_neg, BitVec.getLsbD_neg, a]
    have : ¬ (∃ j, j < p ∧ x.toBitVec.getLsbD j = true) := fun ⟨j, hj, k⟩ => b j hj k
    simp [hp, this]
theorem least_of {P : Nat → Prop} {p : Nat} (h : P p) : ∃ q, q ≤ p ∧ P q ∧ ∀ r, r < q → ¬ P r := by
  induction p using Nat.strongRecOn with
  | ind p ih =>
    by_cases z : ∃ r, r < p ∧ P r
    · obtain ⟨r, hr, k⟩ := z
      obtain ⟨q, hq, a, b⟩ := ih r hr k
      exact ⟨q, by omega, a, b⟩
    · exact ⟨p, Nat.le_refl _, h, fun r hr k => z ⟨r, hr, k⟩⟩
def bc1 (x : Int64) : Int64 := x - ((x.toUInt64 >>> ((1 : Int32).toInt64.toUInt64 &&& Int64.toUInt64 63)).toInt64 &&& 6148914691236517205)
def bc2 (x : Int64) : Int64 := (x &&& 3689348814741910323) + ((x.toUInt64 >>> ((2 : Int32).toInt64.toUInt64 &&& Int64.toUInt64 63)).toInt64 &&& 3689348814741910323)
def bc3 (x : Int64) : Int64 := (x + (x.toUInt64 >>> ((4 : Int32).toInt64.toUInt64 &&& Int64.toUInt64 63)).toInt64) &&& 1085102592571150095
def bc4 (x : Int64) : Int64 := x + (x.toUInt64 >>> ((8 : Int32).toInt64.toUInt64 &&& Int64.toUInt64 63)).toInt64
def bc5 (x : Int64) : Int64 := x + (x.toUInt64 >>> ((16 : Int32).toInt64.toUInt64 &&& Int64.toUInt64 63)).toInt64
def bc6 (x : Int64) : Int32 := (x + (x.toUInt64 >>> ((32 : Int32).toInt64.toUInt64 &&& Int64.toUInt64 63)).toInt64).toInt32 &&& 127
def bcn (x : Int64) : Int32 := bc6 (bc5 (bc4 (bc3 (bc2 (bc1 x)))))
theorem bcn_wp {x : Int64} {post : Int32 → Prop} (h : post (bcn x)) : wp_Long_bitCount x post := by
  unfold wp_Long_bitCount
  intro a1 e1; subst e1
  intro a1 e1; subst e1
  intro a1 e1; subst e1
  intro a1 e1; subst e1
  intro a1 e1; subst e1
  intro a1 e1; subst e1
  intro a1 e1; subst e1
  intro a1 e1; subst e1
  intro a1 e1; subst e1
  exact h
theorem low_count : ∀ p : Nat, p < 40 → bcn (((1 : Int64) <<< ((nI p).toInt64 &&& 63)) - 1) = nI p := by decide +kernel
/-- the least point of a set that has one -/
theorem sp_low {x : Int64} (hx : x ≠ 0) (h40 : ∀ p, bt x p → p < 40) : ∃ p, p < 40 ∧ bt x p ∧ (∀ q, q < p → ¬ bt x q) ∧ (∀ q, bt (x &&& (-x)) q ↔ q = p) ∧ ∀ post : Int32 → Prop, post (nI p) → wp_Long_bitCount ((x &&& (-x)) - 1) post := by
  obtain ⟨p0, h0⟩ := bt_ne hx
  obtain ⟨p, -, hp, hl⟩ := least_of (P := bt x) h0
  have lt := h40 p hp
  have e : ∀ q, bt (x &&& (-x)) q ↔ q = p := fun q => by
    rw [bt_low]
    constructor
    · rintro ⟨a, b⟩
      have : ¬ p < q := fun k => b p k hp
      have : ¬ q < p := fun k => hl q k a
      omega
    · rintro rfl; exact ⟨hp, hl⟩
  refine ⟨p, lt, hp, hl, e, fun post h => ?_⟩
  have : x &&& (-x) = (1 : Int64) <<< ((nI p).toInt64 &&& 63) := bt_ext fun q => (e q).trans (bt_only lt q).symm
  rw [this]
  exact bcn_wp (by rw [low_count p lt]; exact h)
/-- loops that count up by one -/
theorem for1 {F : (Int32 → Prop) → Int32 → Prop} (N : Nat) (J : Nat → Prop) (hN : N < 2147483647) (k0 : Nat) (hk : k0 ≤ N) (h : J k0) (step : ∀ (K : Int32 → Prop) (k : Nat), k ≤ N → J k → (k < N → ∀ (_ : Unit), J (k + 1) → K (nI (k + 1))) → F K (nI k)) : ∃ n, sL1 F n (nI k0) := by
  refine sL1_of (F := F) (fun i => ∃ k, i = nI k ∧ k ≤ N ∧ J k) (fun i => N - ix i) ?_ _ ⟨k0, rfl, hk, h⟩
  intro K i hi ih
  obtain ⟨k, rfl, hk, hJ⟩ := hi
  refine step K k hk hJ (fun lt _ hy => ih _ ⟨k + 1, rfl, by omega, hy⟩ ?_)
  rw [ix_nI (by omega), ix_nI (by omega)]; omega
theorem for2 {A2 : Type} {F : (Int32 → A2 → Prop) → Int32 → A2 → Prop} (N : Nat) (J : Nat → A2 → Prop) (hN : N < 2147483647) (k0 : Nat) (x2 : A2) (hk : k0 ≤ N) (h : J k0 x2) (step : ∀ (K : Int32 → A2 → Prop) (k : Nat) (z2 : A2), k ≤ N → J k z2 → (k < N → ∀ (y2 : A2), J (k + 1) y2 → K (nI (k + 1)) y2) → F K (nI k) z2) : ∃ n, sL2 F n (nI k0) x2 := by
  refine sL2_of (F := F) (fun i x2 => ∃ k, i = nI k ∧ k ≤ N ∧ J k x2) (fun i _ => N - ix i) ?_ _ _ ⟨k0, rfl, hk, h⟩
  intro K i x2 hi ih
  obtain ⟨k, rfl, hk, hJ⟩ := hi
  refine step K k x2 hk hJ (fun lt y2 hy => ih _ y2 ⟨k + 1, rfl, by omega, hy⟩ ?_)
  rw [ix_nI (by omega), ix_nI (by omega)]; omega
theorem for3 {A2 A3 : Type} {F : (Int32 → A2 → A3 → Prop) → Int32 → A2 → A3 → Prop} (N : Nat) (J : Nat → A2 → A3 → Prop) (hN : N < 2147483647) (k0 : Nat) (x2 : A2) (x3 : A3) (hk : k0 ≤ N) (h : J k0 x2 x3) (step : ∀ (K : Int32 → A2 → A3 → Prop) (k : Nat) (z2 : A2) (z3 : A3), k ≤ N → J k z2 z3 → (k < N → ∀ (y2 : A2) (y3 : A3), J (k + 1) y2 y3 → K (nI (k + 1)) y2 y3) → F K (nI k) z2 z3) : ∃ n, sL3 F n (nI k0) x2 x3 := by
  refine sL3_of (F := F) (fun i x2 x3 => ∃ k, i = nI k ∧ k ≤ N ∧ J k x2 x3) (fun i _ _ => N - ix i) ?_ _ _ _ ⟨k0, rfl, hk, h⟩
  intro K i x2 x3 hi ih
  obtain ⟨k, rfl, hk, hJ⟩ := hi
  refine step K k x2 x3 hk hJ (fun lt y2 y3 hy => ih _ y2 y3 ⟨k + 1, rfl, by omega, hy⟩ ?_)
  rw [ix_nI (by omega), ix_nI (by omega)]; omega
theorem for4 {A2 A3 A4 : Type} {F : (Int32 → A2 → A3 → A4 → Prop) → Int32 → A2 → A3 → A4 → Prop} (N : Nat) (J : Nat → A2 → A3 → A4 → Prop) (hN : N < 2147483647) (k0 : Nat) (x2 : A2) (x3 : A3) (x4 : A4) (hk : k0 ≤ N) (h : J k0 x2 x3 x4) (step : ∀ (K : Int32 → A2 → A3 → A4 → Prop) (k : Nat) (z2 : A2) (z3 : A3) (z4 : A4), k ≤ N → J k z2 z3 z4 → (k < N → ∀ (y2 : A2) (y3 : A3) (y4 : A4), J (k + 1) y2 y3 y4 → K (nI (k + 1)) y2 y3 y4) → F K (nI k) z2 z3 z4) : ∃ n, sL4 F n (nI k0) x2 x3 x4 := by
  refine sL4_of (F := F) (fun i x2 x3 x4 => ∃ k, i = nI k ∧ k ≤ N ∧ J k x2 x3 x4) (fun i _ _ _ => N - ix i) ?_ _ _ _ _ ⟨k0, rfl, hk, h⟩
  intro K i x2 x3 x4 hi ih
  obtain ⟨k, rfl, hk, hJ⟩ := hi
  refine step K k x2 x3 x4 hk hJ (fun lt y2 y3 y4 hy => ih _ y2 y3 y4 ⟨k + 1, rfl, by omega, hy⟩ ?_)
  rw [ix_nI (by omega), ix_nI (by omega)]; omega
theorem for5 {A2 A3 A4 A5 : Type} {F : (Int32 → A2 → A3 → A4 → A5 → Prop) → Int32 → A2 → A3 → A4 → A5 → Prop} (N : Nat) (J : Nat → A2 → A3 → A4 → A5 → Prop) (hN : N < 2147483647) (k0 : Nat) (x2 : A2) (x3 : A3) (x4 : A4) (x5 : A5) (hk : k0 ≤ N) (h : J k0 x2 x3 x4 x5) (step : ∀ (K : Int32 → A2 → A3 → A4 → A5 → Prop) (k : Nat) (z2 : A2) (z3 : A3) (z4 : A4) (z5 : A5), k ≤ N → J k z2 z3 z4 z5 → (k < N → ∀ (y2 : A2) (y3 : A3) (y4 : A4) (y5 : A5), J (k + 1) y2 y3 y4 y5 → K (nI (k + 1)) y2 y3 y4 y5) → F K (nI k) z2 z3 z4 z5) : ∃ n, sL5 F n (nI k0) x2 x3 x4 x5 := by
  refine sL5_of (F := F) (fun i x2 x3 x4 x5 => ∃ k, i = nI k ∧ k ≤ N ∧ J k x2 x3 x4 x5) (fun i _ _ _ _ => N - ix i) ?_ _ _ _ _ _ ⟨k0, rfl, hk, h⟩
  intro K i x2 x3 x4 x5 hi ih
  obtain ⟨k, rfl, hk, hJ⟩ := hi
  refine step K k x2 x3 x4 x5 hk hJ (fun lt y2 y3 y4 y5 hy => ih _ y2 y3 y4 y5 ⟨k + 1, rfl, by omega, hy⟩ ?_)
  rw [ix_nI (by omega), ix_nI (by omega)]; omega
theorem for6 {A2 A3 A4 A5 A6 : Type} {F : (Int32 → A2 → A3 → A4 → A5 → A6 → Prop) → Int32 → A2 → A3 → A4 → A5 → A6 → Prop} (N : Nat) (J : Nat → A2 → A3 → A4 → A5 → A6 → Prop) (hN : N < 2147483647) (k0 : Nat) (x2 : A2) (x3 : A3) (x4 : A4) (x5 : A5) (x6 : A6) (hk : k0 ≤ N) (h : J k0 x2 x3 x4 x5 x6) (step : ∀ (K : Int32 → A2 → A3 → A4 → A5 → A6 → Prop) (k : Nat) (z2 : A2) (z3 : A3) (z4 : A4) (z5 : A5) (z6 : A6), k ≤ N → J k z2 z3 z4 z5 z6 → (k < N → ∀ (y2 : A2) (y3 : A3) (y4 : A4) (y5 : A5) (y6 : A6), J (k + 1) y2 y3 y4 y5 y6 → K (nI (k + 1)) y2 y3 y4 y5 y6) → F K (nI k) z2 z3 z4 z5 z6) : ∃ n, sL6 F n (nI k0) x2 x3 x4 x5 x6 := by
  refine sL6_of (F := F) (fun i x2 x3 x4 x5 x6 => ∃ k, i = nI k ∧ k ≤ N ∧ J k x2 x3 x4 x5 x6) (fun i _ _ _ _ _ => N - ix i) ?_ _ _ _ _ _ _ ⟨k0, rfl, hk, h⟩
  intro K i x2 x3 x4 x5 x6 hi ih
  obtain ⟨k, rfl, hk, hJ⟩ := hi
  refine step K k x2 x3 x4 x5 x6 hk hJ (fun lt y2 y3 y4 y5 y6 hy => ih _ y2 y3 y4 y5 y6 ⟨k + 1, rfl, by omega, hy⟩ ?_)
  rw [ix_nI (by omega), ix_nI (by omega)]; omega
theorem for7 {A2 A3 A4 A5 A6 A7 : Type} {F : (Int32 → A2 → A3 → A4 → A5 → A6 → A7 → Prop) → Int32 → A2 → A3 → A4 → A5 → A6 → A7 → Prop} (N : Nat) (J : Nat → A2 → A3 → A4 → A5 → A6 → A7 → Prop) (hN : N < 2147483647) (k0 : Nat) (x2 : A2) (x3 : A3) (x4 : A4) (x5 : A5) (x6 : A6) (x7 : A7) (hk : k0 ≤ N) (h : J k0 x2 x3 x4 x5 x6 x7) (step : ∀ (K : Int32 → A2 → A3 → A4 → A5 → A6 → A7 → Prop) (k : Nat) (z2 : A2) (z3 : A3) (z4 : A4) (z5 : A5) (z6 : A6) (z7 : A7), k ≤ N → J k z2 z3 z4 z5 z6 z7 → (k < N → ∀ (y2 : A2) (y3 : A3) (y4 : A4) (y5 : A5) (y6 : A6) (y7 : A7), J (k + 1) y2 y3 y4 y5 y6 y7 → K (nI (k + 1)) y2 y3 y4 y5 y6 y7) → F K (nI k) z2 z3 z4 z5 z6 z7) : ∃ n, sL7 F n (nI k0) x2 x3 x4 x5 x6 x7 := by
  refine sL7_of (F := F) (fun i x2 x3 x4 x5 x6 x7 => ∃ k, i = nI k ∧ k ≤ N ∧ J k x2 x3 x4 x5 x6 x7) (fun i _ _ _ _ _ _ => N - ix i) ?_ _ _ _ _ _ _ _ ⟨k0, rfl, hk, h⟩
  intro K i x2 x3 x4 x5 x6 x7 hi ih
  obtain ⟨k, rfl, hk, hJ⟩ := hi
  refine step K k x2 x3 x4 x5 x6 x7 hk hJ (fun lt y2 y3 y4 y5 y6 y7 hy => ih _ y2 y3 y4 y5 y6 y7 ⟨k + 1, rfl, by omega, hy⟩ ?_)
  rw [ix_nI (by omega), ix_nI (by omega)]; omega
theorem for8 {A2 A3 A4 A5 A6 A7 A8 : Type} {F : (Int32 → A2 → A3 → A4 → A5 → A6 → A7 → A8 → Prop) → Int32 → A2 → A3 → A4 → A5 → A6 → A7 → A8 → Prop} (N : Nat) (J : Nat → A2 → A3 → A4 → A5 → A6 → A7 → A8 → Prop) (hN : N < 2147483647) (k0 : Nat) (x2 : A2) (x3 : A3) (x4 : A4) (x5 : A5) (x6 : A6) (x7 : A7) (x8 : A8) (hk : k0 ≤ N) (h : J k0 x2 x3 x4 x5 x6 x7 x8) (step : ∀ (K : Int32 → A2 → A3 → A4 → A5 → A6 → A7 → A8 → Prop) (k : Nat) (z2 : A2) (z3 : A3) (z4 : A4) (z5 : A5) (z6 : A6) (z7 : A7) (z8 : A8), k ≤ N → J k z2 z3 z4 z5 z6 z7 z8 → (k < N → ∀ (y2 : A2) (y3 : A3) (y4 : A4) (y5 : A5) (y6 : A6) (y7 : A7) (y8 : A8), J (k + 1) y2 y3 y4 y5 y6 y7 y8 → K (nI (k + 1)) y2 y3 y4 y5 y6 y7 y8) → F K (nI k) z2 z3 z4 z5 z6 z7 z8) : ∃ n, sL8 F n (nI k0) x2 x3 x4 x5 x6 x7 x8 := by
  refine sL8_of (F := F) (fun i x2 x3 x4 x5 x6 x7 x8 => ∃ k, i = nI k ∧ k ≤ N ∧ J k x2 x3 x4 x5 x6 x7 x8) (fun i _ _ _ _ _ _ _ => N - ix i) ?_ _ _ _ _ _ _ _ _ ⟨k0, rfl, hk, h⟩
  intro K i x2 x3 x4 x5 x6 x7 x8 hi ih
  obtain ⟨k, rfl, hk, hJ⟩ := hi
  refine step K k x2 x3 x4 x5 x6 x7 x8 hk hJ (fun lt y2 y3 y4 y5 y6 y7 y8 hy => ih _ y2 y3 y4 y5 y6 y7 y8 ⟨k + 1, rfl, by omega, hy⟩ ?_)
  rw [ix_nI (by omega), ix_nI (by omega)]; omega
theorem for9 {A2 A3 A4 A5 A6 A7 A8 A9 : Type} {F : (Int32 → A2 → A3 → A4 → A5 → A6 → A7 → A8 → A9 → Prop) → Int32 → A2 → A3 → A4 → A5 → A6 → A7 → A8 → A9 → Prop} (N : Nat) (J : Nat → A2 → A3 → A4 → A5 → A6 → A7 → A8 → A9 → Prop) (hN : N < 2147483647) (k0 : Nat) (x2 : A2) (x3 : A3) (x4 : A4) (x5 : A5) (x6 : A6) (x7 : A7) (x8 : A8) (x9 : A9) (hk : k0 ≤ N) (h : J k0 x2 x3 x4 x5 x6 x7 x8 x9) (step : ∀ (K : Int32 → A2 → A3 → A4 → A5 → A6 → A7 → A8 → A9 → Prop) (k : Nat) (z2 : A2) (z3 : A3) (z4 : A4) (z5 : A5) (z6 : A6) (z7 : A7) (z8 : A8) (z9 : A9), k ≤ N → J k z2 z3 z4 z5 z6 z7 z8 z9 → (k < N → ∀ (y2 : A2) (y3 : A3) (y4 : A4) (y5 : A5) (y6 : A6) (y7 : A7) (y8 : A8) (y9 : A9), J (k + 1) y2 y3 y4 y5 y6 y7 y8 y9 → K (nI (k + 1)) y2 y3 y4 y5 y6 y7 y8 y9) → F K (nI k) z2 z3 z4 z5 z6 z7 z8 z9) : ∃ n, sL9 F n (nI k0) x2 x3 x4 x5 x6 x7 x8 x9 := by
  refine sL9_of (F := F) (fun i x2 x3 x4 x5 x6 x7 x8 x9 => ∃ k, i = nI k ∧ k ≤ N ∧ J k x2 x3 x4 x5 x6 x7 x8 x9) (fun i _ _ _ _ _ _ _ _ => N - ix i) ?_ _ _ _ _ _ _ _ _ _ ⟨k0, rfl, hk, h⟩
  intro K i x2 x3 x4 x5 x6 x7 x8 x9 hi ih
  obtain ⟨k, rfl, hk, hJ⟩ := hi
  refine step K k x2 x3 x4 x5 x6 x7 x8 x9 hk hJ (fun lt y2 y3 y4 y5 y6 y7 y8 y9 hy => ih _ y2 y3 y4 y5 y6 y7 y8 y9 ⟨k + 1, rfl, by omega, hy⟩ ?_)
  rw [ix_nI (by omega), ix_nI (by omega)]; omega
theorem for10 {A2 A3 A4 A5 A6 A7 A8 A9 A10 : Type} {F : (Int32 → A2 → A3 → A4 → A5 → A6 → A7 → A8 → A9 → A10 → Prop) → Int32 → A2 → A3 → A4 → A5 → A6 → A7 → A8 → A9 → A10 → Prop} (N : Nat) (J : Nat → A2 → A3 → A4 → A5 → A6 → A7 → A8 → A9 → A10 → Prop) (hN : N < 2147483647) (k0 : Nat) (x2 : A2) (x3 : A3) (x4 : A4) (x5 : A5) (x6 : A6) (x7 : A7) (x8 : A8) (x9 : A9) (x10 : A10) (hk : k0 ≤ N) (h : J k0 x2 x3 x4 x5 x6 x7 x8 x9 x10) (step : ∀ (K : Int32 → A2 → A3 → A4 → A5 → A6 → A7 → A8 → A9 → A10 → Prop) (k : Nat) (z2 : A2) (z3 : A3) (z4 : A4) (z5 : A5) (z6 : A6) (z7 : A7) (z8 : A8) (z9 : A9) (z10 : A10), k ≤ N → J k z2 z3 z4 z5 z6 z7 z8 z9 z10 → (k < N → ∀ (y2 : A2) (y3 : A3) (y4 : A4) (y5 : A5) (y6 : A6) (y7 : A7) (y8 : A8) (y9 : A9) (y10 : A10), J (k + 1) y2 y3 y4 y5 y6 y7 y8 y9 y10 → K (nI (k + 1)) y2 y3 y4 y5 y6 y7 y8 y9 y10) → F K (nI k) z2 z3 z4 z5 z6 z7 z8 z9 z10) : ∃ n, sL10 F n (nI k0) x2 x3 x4 x5 x6 x7 x8 x9 x10 := by
  refine sL10_of (F := F) (fun i x2 x3 x4 x5 x6 x7 x8 x9 x10 => ∃ k, i = nI k ∧ k ≤ N ∧ J k x2 x3 x4 x5 x6 x7 x8 x9 x10) (fun i _ _ _ _ _ _ _ _ _ => N - ix i) ?_ _ _ _ _ _ _ _ _ _ _ ⟨k0, rfl, hk, h⟩
  intro K i x2 x3 x4 x5 x6 x7 x8 x9 x10 hi ih
  obtain ⟨k, rfl, hk, hJ⟩ := hi
  refine step K k x2 x3 x4 x5 x6 x7 x8 x9 x10 hk hJ (fun lt y2 y3 y4 y5 y6 y7 y8 y9 y10 hy => ih _ y2 y3 y4 y5 y6 y7 y8 y9 y10 ⟨k + 1, rfl, by omega, hy⟩ ?_)
  rw [ix_nI (by omega), ix_nI (by omega)]; omega
theorem for11 {A2 A3 A4 A5 A6 A7 A8 A9 A10 A11 : Type} {F : (Int32 → A2 → A3 → A4 → A5 → A6 → A7 → A8 → A9 → A10 → A11 → Prop) → Int32 → A2 → A3 → A4 → A5 → A6 → A7 → A8 → A9 → A10 → A11 → Prop} (N : Nat) (J : Nat → A2 → A3 → A4 → A5 → A6 → A7 → A8 → A9 → A10 → A11 → Prop) (hN : N < 2147483647) (k0 : Nat) (x2 : A2) (x3 : A3) (x4 : A4) (x5 : A5) (x6 : A6) (x7 : A7) (x8 : A8) (x9 : A9) (x10 : A10) (x11 : A11) (hk : k0 ≤ N) (h : J k0 x2 x3 x4 x5 x6 x7 x8 x9 x10 x11) (step : ∀ (K : Int32 → A2 → A3 → A4 → A5 → A6 → A7 → A8 → A9 → A10 → A11 → Prop) (k : Nat) (z2 : A2) (z3 : A3) (z4 : A4) (z5 : A5) (z6 : A6) (z7 : A7) (z8 : A8) (z9 : A9) (z10 : A10) (z11 : A11), k ≤ N → J k z2 z3 z4 z5 z6 z7 z8 z9 z10 z11 → (k < N → ∀ (y2 : A2) (y3 : A3) (y4 : A4) (y5 : A5) (y6 : A6) (y7 : A7) (y8 : A8) (y9 : A9) (y10 : A10) (y11 : A11), J (k + 1) y2 y3 y4 y5 y6 y7 y8 y9 y10 y11 → K (nI (k + 1)) y2 y3 y4 y5 y6 y7 y8 y9 y10 y11) → F K (nI k) z2 z3 z4 z5 z6 z7 z8 z9 z10 z11) : ∃ n, sL11 F n (nI k0) x2 x3 x4 x5 x6 x7 x8 x9 x10 x11 := by
  refine sL11_of (F := F) (fun i x2 x3 x4 x5 x6 x7 x8 x9 x10 x11 => ∃ k, i = nI k ∧ k ≤ N ∧ J k x2 x3 x4 x5 x6 x7 x8 x9 x10 x11) (fun i _ _ _ _ _ _ _ _ _ _ => N - ix i) ?_ _ _ _ _ _ _ _ _ _ _ _ ⟨k0, rfl, hk, h⟩
  intro K i x2 x3 x4 x5 x6 x7 x8 x9 x10 x11 hi ih
  obtain ⟨k, rfl, hk, hJ⟩ := hi
  refine step K k x2 x3 x4 x5 x6 x7 x8 x9 x10 x11 hk hJ (fun lt y2 y3 y4 y5 y6 y7 y8 y9 y10 y11 hy => ih _ y2 y3 y4 y5 y6 y7 y8 y9 y10 y11 ⟨k + 1, rfl, by omega, hy⟩ ?_)
  rw [ix_nI (by omega), ix_nI (by omega)]; omega
theorem for12 {A2 A3 A4 A5 A6 A7 A8 A9 A10 A11 A12 : Type} {F : (Int32 → A2 → A3 → A4 → A5 → A6 → A7 → A8 → A9 → A10 → A11 → A12 → Prop) → Int32 → A2 → A3 → A4 → A5 → A6 → A7 → A8 → A9 → A10 → A11 → A12 → Prop} (N : Nat) (J : Nat → A2 → A3 → A4 → A5 → A6 → A7 → A8 → A9 → A10 → A11 → A12 → Prop) (hN : N < 2147483647) (k0 : Nat) (x2 : A2) (x3 : A3) (x4 : A4) (x5 : A5) (x6 : A6) (x7 : A7) (x8 : A8) (x9 : A9) (x10 : A10) (x11 : A11) (x12 : A12) (hk : k0 ≤ N) (h : J k0 x2 x3 x4 x5 x6 x7 x8 x9 x10 x11 x12) (step : ∀ (K : Int32 → A2 → A3 → A4 → A5 → A6 → A7 → A8 → A9 → A10 → A11 → A12 → Prop) (k : Nat) (z2 : A2) (z3 : A3) (z4 : A4) (z5 : A5) (z6 : A6) (z7 : A7) (z8 : A8) (z9 : A9) (z10 : A10) (z11 : A11) (z12 : A12), k ≤ N → J k z2 z3 z4 z5 z6 z7 z8 z9 z10 z11 z12 → (k < N → ∀ (y2 : A2) (y3 : A3) (y4 : A4) (y5 : A5) (y6 : A6) (y7 : A7) (y8 : A8) (y9 : A9) (y10 : A10) (y11 : A11) (y12 : A12), J (k + 1) y2 y3 y4 y5 y6 y7 y8 y9 y10 y11 y12 → K (nI (k + 1)) y2 y3 y4 y5 y6 y7 y8 y9 y10 y11 y12) → F K (nI k) z2 z3 z4 z5 z6 z7 z8 z9 z10 z11 z12) : ∃ n, sL12 F n (nI k0) x2 x3 x4 x5 x6 x7 x8 x9 x10 x11 x12 := by
  refine sL12_of (F := F) (fun i x2 x3 x4 x5 x6 x7 x8 x9 x10 x11 x12 => ∃ k, i = nI k ∧ k ≤ N ∧ J k x2 x3 x4 x5 x6 x7 x8 x9 x10 x11 x12) (fun i _ _ _ _ _ _ _ _ _ _ _ => N - ix i) ?_ _ _ _ _ _ _ _ _ _ _ _ _ ⟨k0, rfl, hk, h⟩
  intro K i x2 x3 x4 x5 x6 x7 x8 x9 x10 x11 x12 hi ih
  obtain ⟨k, rfl, hk, hJ⟩ := hi
  refine step K k x2 x3 x4 x5 x6 x7 x8 x9 x10 x11 x12 hk hJ (fun lt y2 y3 y4 y5 y6 y7 y8 y9 y10 y11 y12 hy => ih _ y2 y3 y4 y5 y6 y7 y8 y9 y10 y11 y12 ⟨k + 1, rfl, by omega, hy⟩ ?_)
  rw [ix_nI (by omega), ix_nI (by omega)]; omega
