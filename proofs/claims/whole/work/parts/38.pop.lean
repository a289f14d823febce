/-! PURE PART XII: how many points a set has -/
theorem and_split (k a b q m : Nat) (ha : a < 2 ^ k) (hb : b < 2 ^ k) : (a + 2 ^ k * q) &&& (b + 2 ^ k * m) = (a &&& b) + 2 ^ k * (q &&& m) := by
  have hab : (a &&& b) < 2 ^ k := Nat.lt_of_le_of_lt Nat.and_le_left ha
  refine Nat.eq_of_testBit_eq fun i => ?_
  rw [Nat.testBit_and, Nat.add_comm a, Nat.add_comm b, Nat.add_comm (a &&& b), Nat.testBit_two_pow_mul_add _ ha, Nat.testBit_two_pow_mul_add _ hb, Nat.testBit_two_pow_mul_add _ hab]
  by_cases h : i < k
  · simp only [if_pos h, Nat.testBit_and]
  · simp only [if_neg h, Nat.testBit_and]
def q1 (m x : Nat) : Nat := x - ((x / 2) &&& m)
def q2 (m x : Nat) : Nat := (x &&& m) + ((x / 4) &&& m)
def q3 (m x : Nat) : Nat := (x + x / 16) &&& m
def rep (c : Nat) : Nat → Nat
  | 0 => 0
  | n + 1 => c + 256 * rep c n
def pop8 (r : Nat) : Nat := q3 15 (q2 51 (q1 85 r))
def popB : Nat → Nat → Nat
  | 0, _ => 0
  | n + 1, x => pop8 (x % 256) + 256 * popB n (x / 256)
def popC : Nat → Nat → Nat
  | 0, _ => 0
  | n + 1, x => pop8 (x % 256) + popC n (x / 256)
theorem q1_step (r q m : Nat) (hr : r < 256) : q1 (85 + 256 * m) (r + 256 * q) = q1 85 r + 256 * q1 m q := by
  unfold q1
  have e : (r + 256 * q) / 2 = (r / 2 + 128 * (q % 2)) + 256 * (q / 2) := by omega
  have a := and_split 8 (r / 2 + 128 * (q % 2)) 85 (q / 2) m (by omega) (by omega)
  have b := and_split 7 (r / 2) 85 (q % 2) 0 (by omega) (by omega)
  simp only [Nat.reducePow, Nat.mul_zero, Nat.add_zero, Nat.and_zero] at a b
  rw [e, a, b]
  have c : (r / 2 &&& 85) ≤ r / 2 := Nat.and_le_left
  have d : (q / 2 &&& m) ≤ q / 2 := Nat.and_le_left
  omega
theorem q2_step (r q m : Nat) (hr : r < 256) : q2 (51 + 256 * m) (r + 256 * q) = q2 51 r + 256 * q2 m q := by
  unfold q2
  have e : (r + 256 * q) / 4 = (r / 4 + 64 * (q % 4)) + 256 * (q / 4) := by omega
  have a0 := and_split 8 r 51 q m (by omega) (by omega)
  have a := and_split 8 (r / 4 + 64 * (q % 4)) 51 (q / 4) m (by omega) (by omega)
  have b := and_split 6 (r / 4) 51 (q % 4) 0 (by omega) (by omega)
  simp only [Nat.reducePow, Nat.mul_zero, Nat.add_zero, Nat.and_zero] at a0 a b
  rw [e, a, b, a0]
  omega
theorem q3_step (r q m : Nat) (hr : r ≤ 68) (hq : q % 16 ≤ 4) : q3 (15 + 256 * m) (r + 256 * q) = q3 15 r + 256 * q3 m q := by
  unfold q3
  have e : r + 256 * q + (r + 256 * q) / 16 = (r + r / 16 + 16 * (q % 16)) + 256 * (q + q / 16) := by omega
  have a := and_split 8 (r + r / 16 + 16 * (q % 16)) 15 (q + q / 16) m (by omega) (by omega)
  simp only [Nat.reducePow] at a
  rw [e, a]
  have b : ∀ y, y &&& 15 = y % 16 := fun y => Nat.and_two_pow_sub_one_eq_mod y 4
  rw [b, b]
  omega
theorem q12_small : ∀ r : Nat, r < 256 → q2 51 (q1 85 r) ≤ 68 ∧ q2 51 (q1 85 r) % 16 ≤ 4 ∧ q1 85 r < 256 := by decide +kernel
theorem pop_bytes : ∀ n x : Nat, x < 256 ^ n → q3 (rep 15 n) (q2 (rep 51 n) (q1 (rep 85 n) x)) = popB n x ∧ q2 (rep 51 n) (q1 (rep 85 n) x) % 16 ≤ 4
  | 0, x, h => by
    have : x = 0 := by simpa using h
    subst this
    exact ⟨by decide, by decide⟩
  | n + 1, x, h => by
    have hq : x / 256 < 256 ^ n := by
      rw [Nat.pow_succ, Nat.mul_comm] at h
      exact Nat.div_lt_of_lt_mul h
    obtain ⟨ih1, ih2⟩ := pop_bytes n (x / 256) hq
    have ex : x = x % 256 + 256 * (x / 256) := by omega
    have hr : x % 256 < 256 := Nat.mod_lt _ (by omega)
    obtain ⟨s1, s2, s3⟩ := q12_small _ hr
    have e : q2 (rep 51 (n + 1)) (q1 (rep 85 (n + 1)) x) = q2 51 (q1 85 (x % 256)) + 256 * q2 (rep 51 n) (q1 (rep 85 n) (x / 256)) := by
      show q2 (51 + 256 * rep 51 n) (q1 (85 + 256 * rep 85 n) x) = _
      rw [ex, q1_step _ _ _ hr, q2_step _ _ _ s3, ← ex]
    rw [e]
    refine ⟨?_, by omega⟩
    show q3 (15 + 256 * rep 15 n) _ = pop8 (x % 256) + 256 * popB n (x / 256)
    rw [q3_step _ _ _ s1 ih2, ih1]
    rfl
theorem pop8_bits : ∀ r : Nat, r < 256 → pop8 r = r % 2 + r / 2 % 2 + r / 4 % 2 + r / 8 % 2 + r / 16 % 2 + r / 32 % 2 + r / 64 % 2 + r / 128 % 2 := by decide +kernel
theorem sumN_app {f : Nat → Nat} (m : Nat) : ∀ n : Nat, sumN (m + n) f = sumN m f + sumN n (fun i => f (m + i))
  | 0 => rfl
  | n + 1 => by
    show sumN (m + n) f + f (m + n) = sumN m f + (sumN n (fun i => f (m + i)) + f (m + n))
    rw [sumN_app m n]; omega
theorem popC_bits : ∀ n x : Nat, popC n x = sumN (8 * n) (fun p => x / 2 ^ p % 2)
  | 0, x => rfl
  | n + 1, x => by
    show pop8 (x % 256) + popC n (x / 256) = _
    rw [popC_bits n, Nat.mul_succ, Nat.add_comm (8 * n) 8, sumN_app, pop8_bits _ (Nat.mod_lt _ (by omega))]
    have e : ∀ p, x / 2 ^ (8 + p) % 2 = x / 256 / 2 ^ p % 2 := fun p => by rw [Nat.pow_add, ← Nat.div_div_eq_div_mul]
    rw [sumN_congr (g := fun i => x / 2 ^ (8 + i) % 2) (8 * n) (fun p _ => e p)]
    have f : sumN 8 (fun p => x / 2 ^ p % 2) = x % 256 % 2 + x % 256 / 2 % 2 + x % 256 / 4 % 2 + x % 256 / 8 % 2 + x % 256 / 16 % 2 + x % 256 / 32 % 2 + x % 256 / 64 % 2 + x % 256 / 128 % 2 := by
      simp only [sumN, Nat.reducePow]; omega
    rw [f]
def nv (x : Int64) : Nat := x.toBitVec.toNat
theorem nv_lt (x : Int64) : nv x < 18446744073709551616 := x.toBitVec.isLt
theorem nv_add (x y : Int64) : nv (x + y) = (nv x + nv y) % 18446744073709551616 := by
  unfold nv; rw [Int64.toBitVec_add, BitVec.toNat_add]
theorem nv_sub {x y : Int64} (h : nv y ≤ nv x) : nv (x - y) = nv x - nv y := by
  unfold nv at *; rw [Int64.toBitVec_sub]; exact BitVec.toNat_sub_of_le (BitVec.le_def.mpr h)
theorem nv_and (x y : Int64) : nv (x &&& y) = nv x &&& nv y := by
  unfold nv; rw [Int64.toBitVec_and, BitVec.toNat_and]
theorem nv_shr (x : Int64) (c : UInt64) : nv ((x.toUInt64 >>> c).toInt64) = nv x / 2 ^ (c.toNat % 64) := by
  show (x.toUInt64 >>> c).toNat = _
  rw [UInt64.toNat_shiftRight, Nat.shiftRight_eq_div_pow]
  rfl
theorem bcn_C (x : Int64) : bcn x = nI (popC 8 (nv x)) := by
  have hx := nv_lt x
  have m1 : nv 6148914691236517205 = rep 85 8 := by decide +kernel
  have m2 : nv 3689348814741910323 = rep 51 8 := by decide +kernel
  have m3 : nv 1085102592571150095 = rep 15 8 := by decide +kernel
  obtain ⟨pb, -⟩ := pop_bytes 8 (nv x) (by omega)
  have s1 : nv (bc1 x) = q1 (rep 85 8) (nv x) := by
    unfold bc1 q1
    have e : nv ((x.toUInt64 >>> ((1 : Int32).toInt64.toUInt64 &&& Int64.toUInt64 63)).toInt64 &&& 6148914691236517205) = (nv x / 2) &&& rep 85 8 := by
      rw [nv_and, nv_shr, m1]; rfl
    rw [nv_sub, e]
    rw [e]
    have : (nv x / 2 &&& rep 85 8) ≤ nv x / 2 := Nat.and_le_left
    omega
  have l1 := nv_lt (bc1 x)
  have s2 : nv (bc2 (bc1 x)) = q2 (rep 51 8) (nv (bc1 x)) := by
    unfold bc2 q2
    generalize bc1 x = y at l1
    rw [nv_add, nv_and, nv_and, nv_shr, m2]
    have a : (nv y &&& rep 51 8) ≤ rep 51 8 := Nat.and_le_right
    have b : (nv y / 4 &&& rep 51 8) ≤ rep 51 8 := Nat.and_le_right
    have c : rep 51 8 < 9223372036854775808 := by decide +kernel
    show ((nv y &&& rep 51 8) + (nv y / 4 &&& rep 51 8)) % _ = _
    exact Nat.mod_eq_of_lt (by omega)
  have b2 : nv (bc2 (bc1 x)) ≤ 2 * rep 51 8 := by
    rw [s2]
    unfold q2
    have a : (nv (bc1 x) &&& rep 51 8) ≤ rep 51 8 := Nat.and_le_right
    have b : (nv (bc1 x) / 4 &&& rep 51 8) ≤ rep 51 8 := Nat.and_le_right
    omega
  have s3 : nv (bc3 (bc2 (bc1 x))) = q3 (rep 15 8) (nv (bc2 (bc1 x))) := by
    unfold bc3 q3
    generalize bc2 (bc1 x) = y at b2
    rw [nv_and, nv_add, nv_shr, m3]
    have c : rep 51 8 = 3689348814741910323 := by decide +kernel
    rw [c] at b2
    show (((nv y + nv y / 16) % 18446744073709551616) &&& rep 15 8) = _
    rw [Nat.mod_eq_of_lt (by omega)]
  rw [s2, s1] at s3
  rw [pb] at s3
  unfold bcn
  generalize bc3 (bc2 (bc1 x)) = y at s3
  clear s1 s2 l1 b2 pb m1 m2 m3
  -- eight bytes, none above eight
  have p8 : ∀ r : Nat, r < 256 → pop8 r ≤ 8 := by decide +kernel
  have ml : ∀ k, k % 256 < 256 := fun k => Nat.mod_lt _ (by omega)
  simp only [popB, popC] at s3 ⊢
  have d0 := p8 _ (ml (nv x))
  have d1 := p8 _ (ml (nv x / 256))
  have d2 := p8 _ (ml (nv x / 256 / 256))
  have d3 := p8 _ (ml (nv x / 256 / 256 / 256))
  have d4 := p8 _ (ml (nv x / 256 / 256 / 256 / 256))
  have d5 := p8 _ (ml (nv x / 256 / 256 / 256 / 256 / 256))
  have d6 := p8 _ (ml (nv x / 256 / 256 / 256 / 256 / 256 / 256))
  have d7 := p8 _ (ml (nv x / 256 / 256 / 256 / 256 / 256 / 256 / 256))
  generalize pop8 (nv x % 256) = c0 at *
  generalize pop8 (nv x / 256 % 256) = c1 at *
  generalize pop8 (nv x / 256 / 256 % 256) = c2 at *
  generalize pop8 (nv x / 256 / 256 / 256 % 256) = c3 at *
  generalize pop8 (nv x / 256 / 256 / 256 / 256 % 256) = c4 at *
  generalize pop8 (nv x / 256 / 256 / 256 / 256 / 256 % 256) = c5 at *
  generalize pop8 (nv x / 256 / 256 / 256 / 256 / 256 / 256 % 256) = c6 at *
  generalize pop8 (nv x / 256 / 256 / 256 / 256 / 256 / 256 / 256 % 256) = c7 at *
  have t4 : nv (bc4 y) = (nv y + nv y / 256) % 18446744073709551616 := by
    unfold bc4; rw [nv_add, nv_shr]; rfl
  have t5 : nv (bc5 (bc4 y)) = (nv (bc4 y) + nv (bc4 y) / 65536) % 18446744073709551616 := by
    unfold bc5; rw [nv_add, nv_shr]; rfl
  have t6 : (bc6 (bc5 (bc4 y))).toBitVec.toNat = (nv (bc5 (bc4 y)) + nv (bc5 (bc4 y)) / 4294967296) % 128 := by
    unfold bc6
    have b : ∀ y, y &&& 127 = y % 128 := fun y => Nat.and_two_pow_sub_one_eq_mod y 7
    have e1 : (127 : Int32).toBitVec.toNat = 127 := by decide
    have e2 : ∀ z : Int64, z.toInt32.toBitVec.toNat = nv z % 4294967296 := fun z => by
      rw [Int64.toBitVec_toInt32, BitVec.signExtend_eq_setWidth_of_le z.toBitVec (by decide)]; exact BitVec.toNat_setWidth 32 z.toBitVec
    rw [Int32.toBitVec_and, BitVec.toNat_and, e1, b, e2, nv_add, nv_shr]
    show (nv (bc5 (bc4 y)) + nv (bc5 (bc4 y)) / 4294967296) % 18446744073709551616 % 4294967296 % 128 = _
    omega
  have fin : (nv (bc5 (bc4 y)) + nv (bc5 (bc4 y)) / 4294967296) % 128 = c0 + (c1 + (c2 + (c3 + (c4 + (c5 + (c6 + (c7 + 0))))))) := by
    clear t6 hx
    have u1 : nv y / 256 = c1 + 256 * (c2 + 256 * (c3 + 256 * (c4 + 256 * (c5 + 256 * (c6 + 256 * c7))))) := by rw [s3]; omega
    have u2 : nv (bc4 y) = ((c0 + c1) + 256 * (c1 + c2)) + 65536 * (((c2 + c3) + 256 * (c3 + c4)) + 65536 * (((c4 + c5) + 256 * (c5 + c6)) + 65536 * ((c6 + c7) + 256 * c7))) := by rw [t4, u1, s3, Nat.mod_eq_of_lt] <;> omega
    clear t4 s3 u1
    have g0 : (c0 + c1) + 256 * (c1 + c2) ≤ 4200 := by omega
    have g1 : (c2 + c3) + 256 * (c3 + c4) ≤ 4200 := by omega
    have g2 : (c4 + c5) + 256 * (c5 + c6) ≤ 4200 := by omega
    have g3 : (c6 + c7) + 256 * c7 ≤ 4200 := by omega
    have g : ((c0 + c1) + 256 * (c1 + c2) + ((c2 + c3) + 256 * (c3 + c4)) + ((c4 + c5) + 256 * (c5 + c6)) + ((c6 + c7) + 256 * c7)) % 128 = c0 + (c1 + (c2 + (c3 + (c4 + (c5 + (c6 + (c7 + 0))))))) := by omega
    rw [← g]
    clear g d0 d1 d2 d3 d4 d5 d6 d7
    generalize (c0 + c1) + 256 * (c1 + c2) = e0 at *
    generalize (c2 + c3) + 256 * (c3 + c4) = e1 at *
    generalize (c4 + c5) + 256 * (c5 + c6) = e2 at *
    generalize (c6 + c7) + 256 * c7 = e3 at *
    have u3 : nv (bc4 y) / 65536 = e1 + 65536 * (e2 + 65536 * e3) := by rw [u2]; omega
    have u4 : nv (bc5 (bc4 y)) = ((e0 + e1) + 65536 * (e1 + e2)) + 4294967296 * ((e2 + e3) + 65536 * e3) := by rw [t5, u3, u2, Nat.mod_eq_of_lt] <;> omega
    have u5 : nv (bc5 (bc4 y)) / 4294967296 = (e2 + e3) + 65536 * e3 := by rw [u4]; omega
    rw [u5, u4]
    omega
  refine Int32.toBitVec_inj.mp (BitVec.eq_of_toNat_eq ?_)
  rw [t6, fin]
  unfold nI
  rw [Int32.toBitVec_ofNat', BitVec.toNat_ofNat]
  clear t6 fin t5 t4 s3
  omega
theorem bt_bit (x : Int64) (p : Nat) : bt x p ↔ nv x / 2 ^ p % 2 = 1 := by
  unfold bt nv
  rw [BitVec.getLsbD, Nat.testBit_eq_decide_div_mod_eq]
  simp
theorem sum64 (F : Nat → Nat) (h : ∀ i, 40 ≤ i → F i = 0) : sumN (8 * 8) F = sumN 40 F := by
  have a := sumN_app (f := F) 40 24
  rw [sumN_zero (g := fun i => F (40 + i)) 24 (fun i _ => h _ (by omega))] at a
  exact a
theorem bcn_cnt {x : Int64} (h : ∀ p, bt x p → p < 40) : bcn x = nI (cnt 40 (bt x)) := by
  rw [bcn_C, popC_bits]
  congr 1
  have e : ∀ p, nv x / 2 ^ p % 2 = pr (bt x p) := fun p => by
    by_cases z : bt x p
    · rw [pr_t z]; exact (bt_bit x p).mp z
    · rw [pr_f z]
      exact (Nat.mod_two_eq_zero_or_one _).resolve_right (fun k => z ((bt_bit x p).mpr k))
  exact (sum64 (fun p => nv x / 2 ^ p % 2) (fun p hp => (e p).trans (pr_f fun k => absurd (h p k) (by omega)))).trans (sumN_congr 40 fun p _ => e p)
