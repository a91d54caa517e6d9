/-! numbers: mz_I is a homomorphism; comparisons, quotients and places where the numbers are in range -/
theorem mz_I_toInt {z : Int} (h : mz_R z) : (mz_I z).toInt = z := Int32.toInt_ofInt_of_le (by have := h.1; omega) (by have := h.2; omega)
theorem mz_I_add (a b : Int) : mz_I a + mz_I b = mz_I (a + b) := (Int32.ofInt_add a b).symm
theorem mz_I_sub (a b : Int) : mz_I a - mz_I b = mz_I (a - b) := (Int32.ofInt_sub a b).symm
theorem mz_I_mul (a b : Int) : mz_I a * mz_I b = mz_I (a * b) := (Int32.ofInt_mul a b).symm
theorem mz_I_neg (a : Int) : -mz_I a = mz_I (-a) := (Int32.ofInt_neg a).symm
theorem mz_I_self (x : Int32) : mz_I x.toInt = x := Int32.ofInt_toInt x
theorem mz_R_toInt (x : Int32) : mz_R x.toInt := ⟨by have := x.le_toInt; omega, by have := x.toInt_lt; omega⟩
theorem mz_I_eq {a b : Int} (ha : mz_R a) (hb : mz_R b) : mz_I a = mz_I b ↔ a = b := ⟨fun h => by rw [← mz_I_toInt ha, ← mz_I_toInt hb, h], fun h => by rw [h]⟩
theorem mz_I_lt {a b : Int} (ha : mz_R a) (hb : mz_R b) : mz_I a < mz_I b ↔ a < b := by rw [Int32.lt_iff_toInt_lt, mz_I_toInt ha, mz_I_toInt hb]
theorem mz_I_le {a b : Int} (ha : mz_R a) (hb : mz_R b) : mz_I a ≤ mz_I b ↔ a ≤ b := by rw [Int32.le_iff_toInt_le, mz_I_toInt ha, mz_I_toInt hb]
theorem mz_I0 : mz_I 0 = 0 := rfl
theorem mz_R0 : mz_R 0 := by decide
theorem mz_I_clamp {z : Int} (h0 : 0 ≤ z) (h : z < 2147483648) : (mz_I z).toNatClampNeg = z.toNat := Int32.toNatClampNeg_ofInt_of_le (by omega) (by omega)
theorem mz_I_in {z : Int} {n : Nat} (h0 : 0 ≤ z) (h : z < n) (hn : n < 2147483648) : vp_in (mz_I z) n := by
  intro q
  rcases q with q | q
  · rw [← mz_I0, mz_I_lt (by omega) mz_R0] at q
    omega
  · rw [mz_I_clamp h0 (by omega)] at q
    omega
theorem mz_I_ne0 {y : Int} (hy : mz_R y) (h : 0 < y) : ¬ mz_I y = 0 := by
  rw [← mz_I0, mz_I_eq hy mz_R0]
  omega
theorem mz_I_div {x y : Int} (hx : mz_R x) (hy : mz_R y) (h : 0 < y) : mz_I x / mz_I y = mz_I (x.tdiv y) := by
  apply Int32.toInt_inj.mp
  have hne : mz_I y ≠ -1 := by
    intro q
    have h1 := congrArg Int32.toInt q
    rw [mz_I_toInt hy] at h1
    have h2 : (-1 : Int32).toInt = -1 := by decide
    omega
  have hb : mz_R (x.tdiv y) := by
    have h1 := Int.natAbs_tdiv x y
    have h2 : x.natAbs / y.natAbs ≤ x.natAbs := Nat.div_le_self _ _
    have h3 : (x.tdiv y).natAbs ≤ x.natAbs := by rw [h1]; exact h2
    by_cases hm : x = -2147483648
    · subst hm
      have h4 : (-2147483648 : Int).tdiv y ≤ 0 := by
        have := Int.tdiv_nonneg (a := 2147483648) (b := y) (by omega) (by omega)
        rw [show (-2147483648 : Int) = -(2147483648) from rfl, Int.neg_tdiv]
        omega
      constructor <;> omega
    · constructor <;> omega
  rw [Int32.toInt_div_of_ne_right _ _ hne, mz_I_toInt hx, mz_I_toInt hy, mz_I_toInt hb]
theorem mz_I_rem {x y : Int} (hx : mz_R x) (hy : mz_R y) (h : 0 < y) : mz_I x - mz_I x / mz_I y * mz_I y = mz_I (x.tmod y) := by
  rw [mz_I_div hx hy h, mz_I_mul, mz_I_sub]
  congr 1
  have := Int.tmod_add_mul_tdiv x y
  have e : x.tdiv y * y = y * x.tdiv y := Int.mul_comm _ _
  omega
theorem mz_I_and31 (x : Int) : mz_I x &&& mz_I 31 = mz_I (x % 32) := by
  apply Int32.toBitVec.inj
  apply BitVec.eq_of_toNat_eq
  show ((BitVec.ofInt 32 x) &&& (BitVec.ofInt 32 31)).toNat = (BitVec.ofInt 32 (x % 32)).toNat
  rw [BitVec.toNat_and, BitVec.toNat_ofInt, BitVec.toNat_ofInt, BitVec.toNat_ofInt]
  have e : ((31 : Int) % ((2 ^ 32 : Nat) : Int)).toNat = 2 ^ 5 - 1 := by decide
  rw [e, Nat.and_two_pow_sub_one_eq_mod]
  have e2 : ((2 ^ 32 : Nat) : Int) = 4294967296 := by decide
  rw [e2]
  omega
theorem mz_I_and15 (x : Int) : mz_I x &&& mz_I 15 = mz_I (x % 16) := by
  apply Int32.toBitVec.inj
  apply BitVec.eq_of_toNat_eq
  show ((BitVec.ofInt 32 x) &&& (BitVec.ofInt 32 15)).toNat = (BitVec.ofInt 32 (x % 16)).toNat
  rw [BitVec.toNat_and, BitVec.toNat_ofInt, BitVec.toNat_ofInt, BitVec.toNat_ofInt]
  have e : ((15 : Int) % ((2 ^ 32 : Nat) : Int)).toNat = 2 ^ 4 - 1 := by decide
  rw [e, Nat.and_two_pow_sub_one_eq_mod]
  have e2 : ((2 ^ 32 : Nat) : Int) = 4294967296 := by decide
  rw [e2]
  omega
theorem mz_I_orN {x y : Int} {i : Nat} (h0 : 0 ≤ x) (h1 : 0 ≤ y) (h2 : x + y ≤ 2147483647) (hm : x % (2 ^ i : Nat) = 0) (hy : y < (2 ^ i : Nat)) : mz_I x ||| mz_I y = mz_I (x + y) := by
  apply Int32.toBitVec.inj
  apply BitVec.eq_of_toNat_eq
  show ((BitVec.ofInt 32 x) ||| (BitVec.ofInt 32 y)).toNat = (BitVec.ofInt 32 (x + y)).toNat
  rw [BitVec.toNat_or, BitVec.toNat_ofInt, BitVec.toNat_ofInt, BitVec.toNat_ofInt]
  have e2 : ((2 ^ 32 : Nat) : Int) = 4294967296 := by decide
  rw [e2]
  have a1 : (x % 4294967296).toNat = x.toNat := by omega
  have a2 : (y % 4294967296).toNat = y.toNat := by omega
  have a3 : ((x + y) % 4294967296).toNat = x.toNat + y.toNat := by omega
  rw [a1, a2, a3]
  obtain ⟨q, hq⟩ : ∃ q : Nat, x.toNat = 2 ^ i * q := by
    refine ⟨x.toNat / 2 ^ i, ?_⟩
    have h4 : x.toNat % 2 ^ i = 0 := by
      have : ((x.toNat % 2 ^ i : Nat) : Int) = 0 := by
        rw [Int.natCast_emod, Int.toNat_of_nonneg h0]
        exact hm
      omega
    have := Nat.div_add_mod x.toNat (2 ^ i)
    omega
  rw [hq]
  exact (Nat.two_pow_add_eq_or_of_lt (by omega) q).symm
theorem mz_I_shl5 (x : Int) : mz_I x <<< (mz_I 5 &&& 31) = mz_I (x * 32) := by
  have e : mz_I 5 &&& 31 = 5 := by decide
  rw [e, ← mz_I_mul]
  apply Int32.toBitVec.inj
  show (mz_I x).toBitVec <<< ((5 : Int32).toBitVec.smod 32).toNat = (mz_I x).toBitVec * (mz_I 32).toBitVec
  rw [show ((5 : Int32).toBitVec.smod 32).toNat = 5 by decide, BitVec.shiftLeft_eq_mul_twoPow]
  congr 1
theorem mz_I_shl10 (x : Int) : mz_I x <<< (mz_I 10 &&& 31) = mz_I (x * 1024) := by
  have e : mz_I 10 &&& 31 = 10 := by decide
  rw [e, ← mz_I_mul]
  apply Int32.toBitVec.inj
  show (mz_I x).toBitVec <<< ((10 : Int32).toBitVec.smod 32).toNat = (mz_I x).toBitVec * (mz_I 1024).toBitVec
  rw [show ((10 : Int32).toBitVec.smod 32).toNat = 10 by decide, BitVec.shiftLeft_eq_mul_twoPow]
  congr 1
theorem mz_I_shr5 {x : Int} (h : mz_R x) : mz_I x >>> (mz_I 5 &&& 31) = mz_I (x / 32) := by
  have e : mz_I 5 &&& 31 = 5 := by decide
  rw [e]
  apply Int32.toInt_inj.mp
  rw [mz_I_toInt (by omega)]
  show ((mz_I x).toBitVec.sshiftRight' ((5 : Int32).toBitVec.smod 32)).toInt = x / 32
  rw [BitVec.sshiftRight_eq', show ((5 : Int32).toBitVec.smod 32).toNat = 5 by decide, BitVec.toInt_sshiftRight, Int.shiftRight_eq_div_pow]
  show (mz_I x).toInt / _ = _
  rw [mz_I_toInt h]
  rfl
theorem mz_I_shr10 {x : Int} (h : mz_R x) : mz_I x >>> (mz_I 10 &&& 31) = mz_I (x / 1024) := by
  have e : mz_I 10 &&& 31 = 10 := by decide
  rw [e]
  apply Int32.toInt_inj.mp
  rw [mz_I_toInt (by omega)]
  show ((mz_I x).toBitVec.sshiftRight' ((10 : Int32).toBitVec.smod 32)).toInt = x / 1024
  rw [BitVec.sshiftRight_eq', show ((10 : Int32).toBitVec.smod 32).toNat = 10 by decide, BitVec.toInt_sshiftRight, Int.shiftRight_eq_div_pow]
  show (mz_I x).toInt / _ = _
  rw [mz_I_toInt h]
  rfl
/-- one operation on two numbers, and what the machine's own gives -/
theorem mz_I_or {x y z : Int} (h : mz_or x y = some z) : mz_I x ||| mz_I y = mz_I z := by
  unfold mz_or at h
  split at h
  next q =>
    cases h
    obtain ⟨h0, h1, h2, h3 | h3⟩ := q
    · exact mz_I_orN (i := 10) h0 h1 h2 h3.1 h3.2
    · exact mz_I_orN (i := 5) h0 h1 h2 h3.1 h3.2
  next => cases h
theorem mz_I_bmod (x : Int) : mz_I (x.bmod 4294967296) = mz_I x := by
  apply Int32.toInt_inj.mp
  show (Int32.ofInt _).toInt = (Int32.ofInt _).toInt
  rw [Int32.toInt_ofInt, Int32.toInt_ofInt]
  show (x.bmod 4294967296).bmod 4294967296 = x.bmod 4294967296
  exact Int.bmod_bmod
theorem mz_R_bmod (x : Int) : mz_R (x.bmod 4294967296) := by
  have h1 := Int.bmod_lt (x := x) (m := 4294967296) (by decide)
  have h2 := Int.le_bmod (x := x) (m := 4294967296) (by decide)
  constructor <;> omega
theorem mz_bmod_R {x : Int} (h : mz_R x) : x.bmod 4294967296 = x := by
  rw [← mz_I_toInt (mz_R_bmod x), mz_I_bmod, mz_I_toInt h]
