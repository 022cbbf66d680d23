abbrev r32 (x : Int) : Prop := -2147483648 ≤ x ∧ x < 2147483648
abbrev r64 (x : Int) : Prop := -9223372036854775808 ≤ x ∧ x < 9223372036854775808
theorem iz_toInt {x : Int} (h : r32 x) : (iz x).toInt = x := Int32.toInt_ofInt_of_le (by have := h.1; omega) (by have := h.2; omega)
theorem lz_toInt {x : Int} (h : r64 x) : (lz x).toInt = x := Int64.toInt_ofInt_of_le (by have := h.1; omega) (by have := h.2; omega)
theorem iz_bmod (x : Int) : (iz x).toInt = x.bmod 4294967296 := Int32.toInt_ofInt
theorem lz_bmod (x : Int) : (lz x).toInt = x.bmod 18446744073709551616 := Int64.toInt_ofInt
theorem iz_of (y : Int32) : iz y.toInt = y := Int32.ofInt_toInt y
theorem lz_of (y : Int64) : lz y.toInt = y := Int64.ofInt_toInt y
theorem iz_rng (y : Int32) : r32 y.toInt := ⟨Int32.le_toInt y, Int32.toInt_lt y⟩
theorem lz_rng (y : Int64) : r64 y.toInt := ⟨Int64.le_toInt y, Int64.toInt_lt y⟩
theorem iz_add (x y : Int) : iz x + iz y = iz (x + y) := (Int32.ofInt_add x y).symm
theorem iz_sub (x y : Int) : iz x - iz y = iz (x - y) := (Int32.ofInt_sub x y).symm
theorem iz_mul (x y : Int) : iz x * iz y = iz (x * y) := (Int32.ofInt_mul x y).symm
theorem iz_neg (x : Int) : -iz x = iz (-x) := (Int32.ofInt_neg x).symm
theorem lz_add (x y : Int) : lz x + lz y = lz (x + y) := (Int64.ofInt_add x y).symm
theorem lz_sub (x y : Int) : lz x - lz y = lz (x - y) := (Int64.ofInt_sub x y).symm
theorem lz_mul (x y : Int) : lz x * lz y = lz (x * y) := (Int64.ofInt_mul x y).symm
theorem lz_neg (x : Int) : -lz x = lz (-x) := (Int64.ofInt_neg x).symm
theorem iz_lt {x y : Int} (hx : r32 x) (hy : r32 y) : iz x < iz y ↔ x < y := by rw [Int32.lt_iff_toInt_lt, iz_toInt hx, iz_toInt hy]
theorem iz_le {x y : Int} (hx : r32 x) (hy : r32 y) : iz x ≤ iz y ↔ x ≤ y := by rw [Int32.le_iff_toInt_le, iz_toInt hx, iz_toInt hy]
theorem iz_eq {x y : Int} (hx : r32 x) (hy : r32 y) : iz x = iz y ↔ x = y := by rw [← Int32.toInt_inj, iz_toInt hx, iz_toInt hy]
theorem lz_lt {x y : Int} (hx : r64 x) (hy : r64 y) : lz x < lz y ↔ x < y := by rw [Int64.lt_iff_toInt_lt, lz_toInt hx, lz_toInt hy]
theorem lz_eq {x y : Int} (hx : r64 x) (hy : r64 y) : lz x = lz y ↔ x = y := by rw [← Int64.toInt_inj, lz_toInt hx, lz_toInt hy]
theorem iz_0 : iz 0 = 0 := rfl
theorem lz_0 : lz 0 = 0 := rfl
theorem r32_0 : r32 0 := ⟨by decide, by decide⟩
theorem iz_i2l {x : Int} (hx : r32 x) : (iz x).toInt64 = lz x := by
  rw [← Int64.toInt_inj, Int32.toInt_toInt64, iz_toInt hx, lz_toInt ⟨by have := hx.1; omega, by have := hx.2; omega⟩]
theorem lz_l2i (x : Int) : (lz x).toInt32 = iz x := by
  rw [← Int32.toInt_inj, Int64.toInt_toInt32, lz_bmod, iz_bmod]
  exact Int.bmod_bmod_of_dvd (by decide)
theorem iz_in {x : Int} {n : Nat} (h0 : 0 ≤ x) (h1 : x < n) (hx : r32 x) : vp_in (iz x) n := by rw [vp_in_iff, iz_toInt hx]; exact ⟨h0, h1⟩
theorem iz_clamp {x : Int} (hx : r32 x) : (iz x).toNatClampNeg = x.toNat := by rw [Int32.toNatClampNeg, iz_toInt hx]
theorem z_tdiv_b {x y : Int} : (x.tdiv y).natAbs ≤ x.natAbs := by
  rw [Int.natAbs_tdiv]
  exact Nat.div_le_self _ _
theorem lz_div {x y : Int} (hx : r64 x) (hy : r64 y) : lz x / lz y = lz (x.tdiv y) := by
  rw [← Int64.toInt_inj, Int64.toInt_div, lz_toInt hx, lz_toInt hy, lz_bmod]
theorem iz_div {x y : Int} (hx : r32 x) (hy : r32 y) : iz x / iz y = iz (x.tdiv y) := by
  rw [← Int32.toInt_inj, Int32.toInt_div, iz_toInt hx, iz_toInt hy, iz_bmod]
theorem lz_rem {x y : Int} (hx : r64 x) (hy : r64 y) : lz x - lz x / lz y * lz y = lz (x.tmod y) := by
  rw [lz_div hx hy, lz_mul, lz_sub]
  congr 1
  have := Int.tmod_def x y
  rw [this, Int.mul_comm]
theorem iz_rem {x y : Int} (hx : r32 x) (hy : r32 y) : iz x - iz x / iz y * iz y = iz (x.tmod y) := by
  rw [iz_div hx hy, iz_mul, iz_sub]
  congr 1
  have := Int.tmod_def x y
  rw [this, Int.mul_comm]
theorem lz_cmp {x y : Int} (hx : r64 x) (hy : r64 y) : lg_cmp (lz x) (lz y) = iz (if y < x then 1 else if x = y then 0 else -1) := by
  unfold lg_cmp
  simp only [gt_iff_lt, lz_lt hy hx, lz_eq hx hy]
  repeat' split
  all_goals rfl
theorem z_2p (k : Nat) : (0 : Int) < 2 ^ k := Int.pow_pos (by decide)
theorem z_emm (a b m : Int) : (a % m) * b % m = a * b % m := by
  rw [Int.mul_emod, Int.emod_emod_of_dvd a (Int.dvd_refl m), ← Int.mul_emod]
theorem z_bv (x : Int) : (iz x).toBitVec = BitVec.ofInt 32 x := rfl
theorem z_bvl (x : Int) : (lz x).toBitVec = BitVec.ofInt 64 x := rfl
theorem iz_mask {x : Int} {k : Nat} (hk : k ≤ 30) {m : Int} (hm : m = 2 ^ k - 1) : iz x &&& iz m = iz (x % 2 ^ k) := by
  subst hm
  apply Int32.toBitVec_inj.mp
  rw [Int32.toBitVec_and, z_bv, z_bv, z_bv]
  have e : (2 : Int) ^ k - 1 = ((2 ^ k - 1 : Nat) : Int) := by
    have h1 : 1 ≤ 2 ^ k := Nat.one_le_two_pow
    rw [Int.ofNat_sub h1]; simp
  have hp : (2 : Nat) ^ k ∣ 2 ^ 32 := Nat.pow_dvd_pow 2 (by omega)
  apply BitVec.eq_of_toNat_eq
  rw [BitVec.toNat_and, BitVec.toNat_ofInt, BitVec.toNat_ofInt, BitVec.toNat_ofInt, e]
  have h2 : ((2 ^ k - 1 : Nat) : Int) % (2 ^ 32 : Nat) = ((2 ^ k - 1 : Nat) : Int) := by
    apply Int.emod_eq_of_lt (by omega)
    have : 2 ^ k ≤ 2 ^ 30 := Nat.pow_le_pow_right (by decide) hk
    omega
  rw [h2, Int.toNat_natCast, Nat.and_two_pow_sub_one_eq_mod]
  have h3 : (0 : Int) ≤ x % (2 ^ 32 : Nat) := Int.emod_nonneg _ (by decide)
  have h4 : x % (2 : Int) ^ k % ((2 ^ 32 : Nat) : Int) = x % 2 ^ k := by
    apply Int.emod_eq_of_lt (Int.emod_nonneg _ (by have := z_2p k; omega))
    have h5 := Int.emod_lt_of_pos x (z_2p k)
    have : (2 : Int) ^ k ≤ 2 ^ 30 := by
      have h := Nat.pow_le_pow_right (n := 2) (by decide) hk
      have e1 : ((2 ^ k : Nat) : Int) = 2 ^ k := by simp
      have e2 : ((2 ^ 30 : Nat) : Int) = 2 ^ 30 := by simp
      rw [← e1, ← e2]; exact Int.ofNat_le.mpr h
    have e6 : ((2 ^ 32 : Nat) : Int) = 4294967296 := by decide
    rw [e6]; omega
  rw [h4]
  apply Int.ofNat_inj.mp
  have e7 : ((2 ^ k : Nat) : Int) = 2 ^ k := by simp
  rw [Int.natCast_emod, Int.toNat_of_nonneg h3, Int.toNat_of_nonneg (Int.emod_nonneg _ (by have := z_2p k; omega)), e7]
  apply Int.emod_emod_of_dvd
  have := Int.ofNat_dvd.mpr hp
  rwa [e7] at this
theorem iz_shl {x y : Int} {k : Nat} (hk : k < 32) (hy : y = k) : iz x <<< (iz y &&& 31) = iz (x * 2 ^ k) := by
  subst hy
  apply Int32.toBitVec_inj.mp
  have e : ((iz k &&& 31).toBitVec.smod 32).toNat = k := by
    have : ∀ j : Fin 32, ((iz (j.val : Int) &&& 31).toBitVec.smod 32).toNat = j.val := by decide +kernel
    exact this ⟨k, hk⟩
  apply BitVec.eq_of_toNat_eq
  rw [pk_shl _ _ k e, z_bv, z_bv, BitVec.toNat_ofInt, BitVec.toNat_ofInt]
  have h3 : (0 : Int) ≤ x % ((2 ^ 32 : Nat) : Int) := Int.emod_nonneg _ (by decide)
  have h4 : (0 : Int) ≤ (x * 2 ^ k) % ((2 ^ 32 : Nat) : Int) := Int.emod_nonneg _ (by decide)
  apply Int.ofNat_inj.mp
  rw [Int.toNat_of_nonneg h4, Int.natCast_emod, Int.natCast_mul, Int.toNat_of_nonneg h3, Int.natCast_pow]
  exact z_emm _ _ _
theorem iz_shr {x y : Int} {k : Nat} (hk : k < 32) (hy : y = k) (hx : r32 x) : iz x >>> (iz y &&& 31) = iz (x / 2 ^ k) := by
  subst hy
  have e : ((iz k &&& 31).toBitVec.smod 32).toNat = k := by
    have : ∀ j : Fin 32, ((iz (j.val : Int) &&& 31).toBitVec.smod 32).toNat = j.val := by decide +kernel
    exact this ⟨k, hk⟩
  rw [← Int32.toInt_inj, pk_shr _ _ k e, iz_toInt hx, Int.shiftRight_eq_div_pow, iz_toInt]
  · simp
  · have h1 := z_2p k
    have a1 := hx.1
    have a2 := hx.2
    have h2 : (1 : Int) ≤ 2 ^ k := h1
    constructor
    · apply Int.le_ediv_of_mul_le h1
      have : 2147483648 * (1 : Int) ≤ 2147483648 * 2 ^ k := Int.mul_le_mul_of_nonneg_left h2 (by decide)
      omega
    · apply Int.ediv_lt_of_lt_mul h1
      have : 2147483648 * (1 : Int) ≤ 2147483648 * 2 ^ k := Int.mul_le_mul_of_nonneg_left h2 (by decide)
      omega
theorem iz_i2b (x : Int) : (iz x).toInt8.toInt32 = iz (x.bmod 256) := by
  rw [← Int32.toInt_inj, Int8.toInt_toInt32, Int32.toInt_toInt8, iz_bmod, iz_toInt]
  · exact Int.bmod_bmod_of_dvd (by decide)
  · have h1 := Int.le_bmod (x := x) (m := 256) (by decide)
    have h2 := Int.bmod_lt (x := x) (m := 256) (by decide)
    omega
theorem iz_i2s (x : Int) : (iz x).toInt16.toInt32 = iz (x.bmod 65536) := by
  rw [← Int32.toInt_inj, Int16.toInt_toInt32, Int32.toInt_toInt16, iz_bmod, iz_toInt]
  · exact Int.bmod_bmod_of_dvd (by decide)
  · have h1 := Int.le_bmod (x := x) (m := 65536) (by decide)
    have h2 := Int.bmod_lt (x := x) (m := 65536) (by decide)
    omega
theorem lz_shl32 (x : Int) : lz x <<< ((iz 32).toInt64 &&& 63) = lz (x * 4294967296) := by
  apply Int64.toBitVec_inj.mp
  rw [Int64.toBitVec_shiftLeft]
  have e : ((iz 32).toInt64 &&& 63).toBitVec.smod 64 = 32#64 := by decide +kernel
  rw [e, z_bvl, z_bvl]
  apply BitVec.eq_of_toNat_eq
  rw [BitVec.shiftLeft_eq', BitVec.toNat_shiftLeft, BitVec.toNat_ofInt, BitVec.toNat_ofInt]
  have h3 : (0 : Int) ≤ x % ((2 ^ 64 : Nat) : Int) := Int.emod_nonneg _ (by decide)
  have h4 : (0 : Int) ≤ (x * 4294967296) % ((2 ^ 64 : Nat) : Int) := Int.emod_nonneg _ (by decide)
  apply Int.ofNat_inj.mp
  rw [Int.toNat_of_nonneg h4, Nat.shiftLeft_eq, Int.natCast_emod, Int.natCast_mul, Int.toNat_of_nonneg h3]
  exact z_emm _ _ _
theorem lz_mask32 (x : Int) : lz x &&& lz 4294967295 = lz (x % 4294967296) := by
  apply Int64.toBitVec_inj.mp
  rw [Int64.toBitVec_and, z_bvl, z_bvl, z_bvl]
  apply BitVec.eq_of_toNat_eq
  rw [BitVec.toNat_and, BitVec.toNat_ofInt, BitVec.toNat_ofInt, BitVec.toNat_ofInt]
  have e : ((4294967295 : Int) % ((2 ^ 64 : Nat) : Int)).toNat = 2 ^ 32 - 1 := by decide
  rw [e, Nat.and_two_pow_sub_one_eq_mod]
  have h3 : (0 : Int) ≤ x % ((2 ^ 64 : Nat) : Int) := Int.emod_nonneg _ (by decide)
  have h4 : (0 : Int) ≤ x % 4294967296 % ((2 ^ 64 : Nat) : Int) := Int.emod_nonneg _ (by decide)
  apply Int.ofNat_inj.mp
  rw [Int.toNat_of_nonneg h4, Int.natCast_emod, Int.toNat_of_nonneg h3]
  have e2 : ((2 ^ 64 : Nat) : Int) = 18446744073709551616 := by decide
  have e3 : ((2 ^ 32 : Nat) : Int) = 4294967296 := by decide
  rw [e2, e3]
  omega
theorem lz_or32 {x y : Int} (h0 : 0 ≤ y) (h1 : y < 4294967296) : lz (x * 4294967296) ||| lz y = lz (x * 4294967296 + y) := by
  apply Int64.toBitVec_inj.mp
  rw [Int64.toBitVec_or, z_bvl, z_bvl, z_bvl]
  have e0 : BitVec.ofInt 64 (x * 4294967296 + y) = BitVec.ofInt 64 (x * 4294967296) + BitVec.ofInt 64 y := BitVec.ofInt_add _ _
  rw [e0]
  symm
  apply BitVec.add_eq_or_of_and_eq_zero
  apply BitVec.eq_of_toNat_eq
  have e2 : ((2 ^ 64 : Nat) : Int) = 18446744073709551616 := by decide
  obtain ⟨q, hq⟩ : ∃ q : Nat, (BitVec.ofInt 64 (x * 4294967296)).toNat = 2 ^ 32 * q := by
    refine ⟨(x % 4294967296).toNat, ?_⟩
    rw [BitVec.toNat_ofInt, e2]
    omega
  have hy : (BitVec.ofInt 64 y).toNat = y.toNat := by
    rw [BitVec.toNat_ofInt, e2]
    omega
  rw [BitVec.toNat_and, hq, hy, Nat.and_comm]
  show y.toNat &&& 2 ^ 32 * q = 0
  apply Nat.eq_of_testBit_eq
  intro i
  rw [Nat.testBit_and, Nat.testBit_two_pow_mul, Nat.zero_testBit]
  by_cases hi : 32 ≤ i
  · rw [Nat.testBit_lt_two_pow (show y.toNat < 2 ^ i from Nat.lt_of_lt_of_le (by omega : y.toNat < 2 ^ 32) (Nat.pow_le_pow_right (by decide) hi))]
    rfl
  · simp [hi]
theorem lz_xor {x y : Int} (hx : r64 x) (hy : r64 y) : ∃ z : Int, r64 z ∧ (z < 0 ↔ ¬ (x < 0 ↔ y < 0)) ∧ lz x ^^^ lz y = lz z := by
  refine ⟨(lz x ^^^ lz y).toInt, lz_rng _, ?_, (lz_of _).symm⟩
  have key : ∀ w : Int64, w.toInt < 0 ↔ w.toBitVec.msb = true := fun w => by
    rw [BitVec.msb_eq_toInt, decide_eq_true_iff]
    rfl
  have hx1 := key (lz x)
  have hy1 := key (lz y)
  rw [lz_toInt hx] at hx1
  rw [lz_toInt hy] at hy1
  rw [key, Int64.toBitVec_xor, BitVec.msb_xor, hx1, hy1]
  cases (lz x).toBitVec.msb <;> cases (lz y).toBitVec.msb <;> simp
theorem lz_shr63 {x : Int} (hx : r64 x) : lz x >>> ((iz 63).toInt64 &&& 63) = lz (if x < 0 then -1 else 0) := by
  have e : ((iz 63).toInt64 &&& 63).toBitVec.smod 64 = 63#64 := by decide +kernel
  rw [← Int64.toInt_inj]
  have h1 : (lz x >>> ((iz 63).toInt64 &&& 63)).toInt = x / 9223372036854775808 := by
    show (lz x >>> ((iz 63).toInt64 &&& 63)).toBitVec.toInt = _
    rw [Int64.toBitVec_shiftRight, e]
    show ((lz x).toBitVec.sshiftRight 63).toInt = _
    rw [BitVec.toInt_sshiftRight, Int.shiftRight_eq_div_pow]
    show (lz x).toInt / _ = _
    rw [lz_toInt hx]
    rfl
  rw [h1]
  have := hx.1
  have := hx.2
  by_cases h : x < 0
  · rw [if_pos h, show (lz (-1)).toInt = -1 from by decide]
    omega
  · rw [if_neg h, show (lz 0).toInt = 0 from by decide]
    omega
theorem lz_ushr63 {x : Int} (hx : r64 x) : ((lz x).toUInt64 >>> ((iz 63).toInt64.toUInt64 &&& Int64.toUInt64 63)).toInt64 = lz (if x < 0 then 1 else 0) := by
  have e : ((iz 63).toInt64.toUInt64 &&& Int64.toUInt64 63).toBitVec % 64 = 63#64 := by decide +kernel
  apply Int64.toBitVec_inj.mp
  show ((lz x).toUInt64 >>> ((iz 63).toInt64.toUInt64 &&& Int64.toUInt64 63)).toBitVec = _
  rw [UInt64.toBitVec_shiftRight, e]
  apply BitVec.eq_of_toNat_eq
  show ((lz x).toBitVec >>> 63#64).toNat = _
  rw [BitVec.ushiftRight_eq', BitVec.toNat_ushiftRight, Nat.shiftRight_eq_div_pow, z_bvl, BitVec.toNat_ofInt]
  have e2 : ((2 ^ 64 : Nat) : Int) = 18446744073709551616 := by decide
  have := hx.1
  have := hx.2
  by_cases h : x < 0
  · rw [if_pos h, show (lz 1).toBitVec.toNat = 1 from by decide]
    rw [e2, show (63#64).toNat = 63 from by decide]
    omega
  · rw [if_neg h, show (lz 0).toBitVec.toNat = 0 from by decide]
    rw [e2, show (63#64).toNat = 63 from by decide]
    omega
theorem lz_or0 (y : Int) : lz 0 ||| lz y = lz y := by
  apply Int64.toBitVec_inj.mp
  rw [Int64.toBitVec_or, show (lz 0).toBitVec = 0#64 from by decide, BitVec.zero_or]
theorem lz_orm (y : Int) : lz (-1) ||| lz y = lz (-1) := by
  apply Int64.toBitVec_inj.mp
  rw [Int64.toBitVec_or, show (lz (-1)).toBitVec = BitVec.allOnes 64 from by decide, BitVec.allOnes_or]
