/-! ===== numbers: an int of the machine as the image of an Int ===== -/
def iI (z : Int) : Int32 := Int32.ofInt z
def lI (z : Int) : Int64 := Int64.ofInt z
abbrev rg (z : Int) : Prop := -2147483648 ≤ z ∧ z ≤ 2147483647
abbrev rgL (z : Int) : Prop := -9223372036854775808 ≤ z ∧ z ≤ 9223372036854775807
theorem iI_add (a b : Int) : iI a + iI b = iI (a + b) := (Int32.ofInt_add a b).symm
theorem iI_sub (a b : Int) : iI a - iI b = iI (a - b) := (Int32.ofInt_sub a b).symm
theorem iI_mul (a b : Int) : iI a * iI b = iI (a * b) := (Int32.ofInt_mul a b).symm
theorem iI_neg (a : Int) : - iI a = iI (-a) := (Int32.ofInt_neg a).symm
theorem lI_add (a b : Int) : lI a + lI b = lI (a + b) := (Int64.ofInt_add a b).symm
theorem lI_sub (a b : Int) : lI a - lI b = lI (a - b) := (Int64.ofInt_sub a b).symm
theorem lI_mul (a b : Int) : lI a * lI b = lI (a * b) := (Int64.ofInt_mul a b).symm
theorem iI_toInt {a : Int} (h : rg a) : (iI a).toInt = a := Int32.toInt_ofInt_of_le (by omega) (by omega)
theorem lI_toInt {a : Int} (h : rgL a) : (lI a).toInt = a := Int64.toInt_ofInt_of_le (by omega) (by omega)
theorem iI_of (x : Int32) : iI x.toInt = x := Int32.ofInt_toInt x
theorem lI_of (x : Int64) : lI x.toInt = x := Int64.ofInt_toInt x
theorem rg_toInt (x : Int32) : rg x.toInt := ⟨x.le_toInt, by have := x.toInt_lt; omega⟩
theorem rgL_toInt (x : Int64) : rgL x.toInt := ⟨x.le_toInt, by have := x.toInt_lt; omega⟩
theorem iI_lt {a b : Int} (h : rg a ∧ rg b) : iI a < iI b ↔ a < b := by rw [Int32.lt_iff_toInt_lt, iI_toInt h.1, iI_toInt h.2]
theorem iI_le {a b : Int} (h : rg a ∧ rg b) : iI a ≤ iI b ↔ a ≤ b := by rw [Int32.le_iff_toInt_le, iI_toInt h.1, iI_toInt h.2]
theorem iI_eq {a b : Int} (h : rg a ∧ rg b) : iI a = iI b ↔ a = b := by rw [← Int32.toInt_inj, iI_toInt h.1, iI_toInt h.2]
theorem lI_lt {a b : Int} (h : rgL a ∧ rgL b) : lI a < lI b ↔ a < b := by rw [Int64.lt_iff_toInt_lt, lI_toInt h.1, lI_toInt h.2]
theorem lI_eq {a b : Int} (h : rgL a ∧ rgL b) : lI a = lI b ↔ a = b := by rw [← Int64.toInt_inj, lI_toInt h.1, lI_toInt h.2]
theorem iI_nat (n : Nat) : iI (n : Int) = nI n := Int32.ofInt_eq_ofNat
theorem lI_nat (n : Nat) : lI (n : Int) = lN n := Int64.ofInt_eq_ofNat
theorem iI_0 : (0 : Int32) = iI 0 := rfl
theorem iI_clamp {a : Int} (h0 : 0 ≤ a) (h : a ≤ 2147483647) : (iI a).toNatClampNeg = a.toNat := by
  show (iI a).toInt.toNat = a.toNat
  rw [iI_toInt ⟨by omega, h⟩]
theorem iI_in {a : Int} {n : Nat} (h0 : 0 ≤ a) (h : a < n) (hn : n < 2147483648) : vp_in (iI a) n := by
  rw [vp_in_iff, iI_toInt ⟨by omega, by omega⟩]
  exact ⟨h0, h⟩
theorem iI_div {a b : Int} (h : (0 ≤ a ∧ a ≤ 2147483647) ∧ (0 < b ∧ b ≤ 2147483647)) : iI a / iI b = iI (a / b) := by
  obtain ⟨m, rfl⟩ := Int.eq_ofNat_of_zero_le h.1.1
  obtain ⟨n, rfl⟩ := Int.eq_ofNat_of_zero_le (Int.le_of_lt h.2.1)
  rw [iI_nat, iI_nat, pk_div (by omega) (by omega) (by omega), ← iI_nat, Int.natCast_ediv]
theorem iI_rem {a b : Int} (h : (0 ≤ a ∧ a ≤ 2147483647) ∧ (0 < b ∧ b ≤ 2147483647)) : iI a - iI a / iI b * iI b = iI (a % b) := by
  obtain ⟨m, rfl⟩ := Int.eq_ofNat_of_zero_le h.1.1
  obtain ⟨n, rfl⟩ := Int.eq_ofNat_of_zero_le (Int.le_of_lt h.2.1)
  rw [iI_nat, iI_nat, pk_rem (by omega) (by omega) (by omega), ← iI_nat, Int.natCast_emod]
theorem lI_div {a b : Int} (h : (0 ≤ a ∧ a ≤ 9223372036854775807) ∧ (0 < b ∧ b ≤ 9223372036854775807)) : lI a / lI b = lI (a / b) := by
  obtain ⟨m, rfl⟩ := Int.eq_ofNat_of_zero_le h.1.1
  obtain ⟨n, rfl⟩ := Int.eq_ofNat_of_zero_le (Int.le_of_lt h.2.1)
  rw [lI_nat, lI_nat, pk_lDiv (by omega) (by omega) (by omega), ← lI_nat, Int.natCast_ediv]
theorem lI_rem {a b : Int} (h : (0 ≤ a ∧ a ≤ 9223372036854775807) ∧ (0 < b ∧ b ≤ 9223372036854775807)) : lI a - lI a / lI b * lI b = lI (a % b) := by
  obtain ⟨m, rfl⟩ := Int.eq_ofNat_of_zero_le h.1.1
  obtain ⟨n, rfl⟩ := Int.eq_ofNat_of_zero_le (Int.le_of_lt h.2.1)
  rw [lI_nat, lI_nat, pk_lRem (by omega) (by omega) (by omega), ← lI_nat, Int.natCast_emod]
theorem sh_31 : ∀ n, n < 32 → ((nI n &&& 31).toBitVec.smod 32).toNat = n := by decide +kernel
theorem iI_shr {a b : Int} (h : (0 ≤ a ∧ a ≤ 2147483647) ∧ (0 ≤ b ∧ b < 32)) : iI a >>> (iI b &&& 31) = iI (a / 2 ^ b.toNat) := by
  obtain ⟨m, rfl⟩ := Int.eq_ofNat_of_zero_le h.1.1
  obtain ⟨n, rfl⟩ := Int.eq_ofNat_of_zero_le h.2.1
  rw [iI_nat, iI_nat, pk_shrN (by omega) _ n (sh_31 n (by omega)), ← iI_nat, Int.natCast_ediv]
  simp
theorem iI_shl {a b : Int} (h : (0 ≤ a ∧ a * 2 ^ b.toNat ≤ 2147483647) ∧ (0 ≤ b ∧ b < 32)) : iI a <<< (iI b &&& 31) = iI (a * 2 ^ b.toNat) := by
  obtain ⟨⟨h1, h2⟩, h3, h4⟩ := h
  obtain ⟨m, rfl⟩ := Int.eq_ofNat_of_zero_le h1
  obtain ⟨n, rfl⟩ := Int.eq_ofNat_of_zero_le h3
  have h5 : (m * 2 ^ n : Nat) < 2 ^ 32 := by
    have e : ((m * 2 ^ n : Nat) : Int) = (m : Int) * 2 ^ n := by simp
    simp only [Int.toNat_natCast] at h2
    omega
  rw [iI_nat, iI_nat, pk_shlN _ n (sh_31 n (by omega)) h5, ← iI_nat]
  simp
theorem bv_iI (a : Int) : (iI a).toBitVec.toNat = (a % 4294967296).toNat := by
  show (BitVec.ofInt 32 a).toNat = _
  rw [BitVec.toNat_ofInt]
  rfl
theorem iI_and1 (a : Int) : iI a &&& iI 1 = iI (a % 2) := by
  rw [pk_and (iI a) (m := iI 1) 1 (by decide), bv_iI, ← iI_nat]
  congr 1
  omega
theorem iI_and31 (a : Int) : iI a &&& iI 31 = iI (a % 32) := by
  rw [pk_and (iI a) (m := iI 31) 5 (by decide), bv_iI, ← iI_nat]
  congr 1
  omega
theorem nI_xor (a b : Nat) : nI a ^^^ nI b = nI (a ^^^ b) := by
  apply Int32.toBitVec_inj.1
  show BitVec.ofNat 32 a ^^^ BitVec.ofNat 32 b = BitVec.ofNat 32 (a ^^^ b)
  apply BitVec.eq_of_getLsbD_eq
  intro i hi
  simp [hi]
theorem nI_or (a b : Nat) : nI a ||| nI b = nI (a ||| b) := by
  apply Int32.toBitVec_inj.1
  show BitVec.ofNat 32 a ||| BitVec.ofNat 32 b = BitVec.ofNat 32 (a ||| b)
  apply BitVec.eq_of_getLsbD_eq
  intro i hi
  simp [hi]
def bxor (a b : Int) : Int := ((a.toNat ^^^ b.toNat : Nat) : Int)
def bor (a b : Int) : Int := ((a.toNat ||| b.toNat : Nat) : Int)
theorem iI_xor {a b : Int} (h : 0 ≤ a ∧ 0 ≤ b) : iI a ^^^ iI b = iI (bxor a b) := by
  obtain ⟨m, rfl⟩ := Int.eq_ofNat_of_zero_le h.1
  obtain ⟨n, rfl⟩ := Int.eq_ofNat_of_zero_le h.2
  rw [iI_nat, iI_nat, nI_xor, ← iI_nat]
  rfl
theorem iI_or {a b : Int} (h : 0 ≤ a ∧ 0 ≤ b) : iI a ||| iI b = iI (bor a b) := by
  obtain ⟨m, rfl⟩ := Int.eq_ofNat_of_zero_le h.1
  obtain ⟨n, rfl⟩ := Int.eq_ofNat_of_zero_le h.2
  rw [iI_nat, iI_nat, nI_or, ← iI_nat]
  rfl
theorem iI_l {a : Int} (h : rg a) : (iI a).toInt64 = lI a := by
  apply Int64.toInt_inj.mp
  rw [Int32.toInt_toInt64, iI_toInt h, lI_toInt (by omega)]
theorem lI_i (a : Int) : (lI a).toInt32 = iI a := Int64.toInt32_ofInt
/-- what lcmp puts -/
def lc (a b : Int) : Int := if lI b < lI a then 1 else if lI a = lI b then 0 else -1
theorem lc_cmp (a b : Int) : lg_cmp (lI a) (lI b) = iI (lc a b) := by
  unfold lg_cmp lc
  split
  · rfl
  · split
    · rfl
    · rfl
theorem lc_of {a b : Int} (h : rgL a ∧ rgL b) : lc a b = if b < a then 1 else if a = b then 0 else -1 := by
  unfold lc
  simp only [lI_lt ⟨h.2, h.1⟩, lI_eq h]
theorem lc_self (a : Int) : lc a a = 0 := by
  unfold lc
  rw [if_neg (fun h => by rw [Int64.lt_iff_toInt_lt] at h; omega), if_pos rfl]
theorem lI_ushr33 (a : Int) : ((lI a).toUInt64 >>> ((iI 33).toInt64.toUInt64 &&& Int64.toUInt64 63)).toInt64 = lI (a % 18446744073709551616 / 8589934592) := by
  have h : ((iI 33).toInt64.toUInt64 &&& Int64.toUInt64 63).toNat % 64 = 33 := by decide
  have e : (lI a).toUInt64.toNat = (a % 18446744073709551616).toNat := by
    show (BitVec.ofInt 64 a).toNat = _
    rw [BitVec.toNat_ofInt]
    rfl
  have h0 : 0 ≤ a % 18446744073709551616 := Int.emod_nonneg _ (by decide)
  have h1 : a % 18446744073709551616 < 18446744073709551616 := Int.emod_lt_of_pos _ (by decide)
  have e2 : ((lI a).toUInt64 >>> ((iI 33).toInt64.toUInt64 &&& Int64.toUInt64 63)).toNat = (a % 18446744073709551616 / 8589934592).toNat := by
    rw [UInt64.toNat_shiftRight, Nat.shiftRight_eq_div_pow, h, e]
    omega
  have e3 : (lI (a % 18446744073709551616 / 8589934592)).toUInt64.toNat = (a % 18446744073709551616 / 8589934592).toNat := by
    show (BitVec.ofInt 64 _).toNat = _
    rw [BitVec.toNat_ofInt]
    show ((a % 18446744073709551616 / 8589934592) % 18446744073709551616).toNat = _
    congr 1
    omega
  exact congrArg UInt64.toInt64 (UInt64.toNat_inj.mp (e2.trans e3.symm))
