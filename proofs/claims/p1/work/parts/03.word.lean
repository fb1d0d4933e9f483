/-! WORDS AND WHAT THEY MEAN: the tag is the word mod 16: 1 an int by its number, 2 a reference (0 null, then the cells, from 2 ^ 20 on the old ones), 3 a long by an int's number, 4 a variable and a number, 5 the same as a long, 6 a variable or'd with a number, 7 a float zero, 8 a double zero, 9 a number less a variable -/
theorem mz_nI_bv (n : Nat) : (nI n).toBitVec.toNat = n % 4294967296 := by
  show (BitVec.ofNat 32 n).toNat = _
  rw [BitVec.toNat_ofNat]
theorem mz_bv_lt (x : Int32) : x.toBitVec.toNat < 4294967296 := x.toBitVec.isLt
theorem mz_ext {x y : Int32} (h : x.toBitVec.toNat = y.toBitVec.toNat) : x = y := by
  have h1 : x.toBitVec = y.toBitVec := BitVec.eq_of_toNat_eq h
  exact Int32.toBitVec_inj.mp h1
theorem mz_nI_mod (n : Nat) : nI (n % 4294967296) = nI n := mz_ext (by rw [mz_nI_bv, mz_nI_bv, Nat.mod_mod])
theorem mz_nI_cong {a b : Nat} (h : a % 4294967296 = b % 4294967296) : nI a = nI b := mz_ext (by rw [mz_nI_bv, mz_nI_bv, h])
theorem mz_add_bv (x y : Int32) : (x + y).toBitVec.toNat = (x.toBitVec.toNat + y.toBitVec.toNat) % 4294967296 := by
  rw [Int32.toBitVec_add, BitVec.toNat_add]
theorem mz_sub_bv (x y : Int32) : (x - y).toBitVec.toNat = (4294967296 - y.toBitVec.toNat + x.toBitVec.toNat) % 4294967296 := by
  rw [Int32.toBitVec_sub, BitVec.toNat_sub]
theorem mz_int_bv (x : Int32) : x.toInt = if x.toBitVec.toNat < 2147483648 then (x.toBitVec.toNat : Int) else (x.toBitVec.toNat : Int) - 4294967296 := by
  show x.toBitVec.toInt = _
  rw [BitVec.toInt_eq_toNat_cond]
  have h := mz_bv_lt x
  by_cases q : x.toBitVec.toNat < 2147483648
  · rw [if_pos q, if_pos (by omega)]
  · rw [if_neg q, if_neg (by omega)]; rfl
/-- a number as it is compared: 0 the least int -/
def mz_b (x : Int32) : Nat := (x.toBitVec.toNat + 2147483648) % 4294967296
theorem mz_b_int (x : Int32) : (mz_b x : Int) = x.toInt + 2147483648 := by
  have h := mz_bv_lt x
  rw [mz_int_bv]
  unfold mz_b
  by_cases q : x.toBitVec.toNat < 2147483648
  · rw [if_pos q, Nat.mod_eq_of_lt (by omega)]; omega
  · rw [if_neg q, show (x.toBitVec.toNat + 2147483648) % 4294967296 = x.toBitVec.toNat - 2147483648 by omega]; omega
theorem mz_b_lt {x y : Int32} : x < y ↔ mz_b x < mz_b y := by
  rw [Int32.lt_iff_toInt_lt]
  have h1 := mz_b_int x
  have h2 := mz_b_int y
  omega
theorem mz_b_le {x y : Int32} : x ≤ y ↔ mz_b x ≤ mz_b y := by
  rw [Int32.le_iff_toInt_le]
  have h1 := mz_b_int x
  have h2 := mz_b_int y
  omega
theorem mz_b_eq {x y : Int32} : x = y ↔ mz_b x = mz_b y := by
  constructor
  · intro h; rw [h]
  · intro h
    have h1 := mz_bv_lt x
    have h2 := mz_bv_lt y
    unfold mz_b at h
    exact mz_ext (by omega)
theorem mz_b_nI (a : Nat) : mz_b (nI a) = (a + 2147483648) % 4294967296 := by
  unfold mz_b; rw [mz_nI_bv]; omega
theorem mz_b_add (x : Int32) (o : Nat) : mz_b (x + nI o) = (mz_b x + o) % 4294967296 := by
  have h1 := mz_bv_lt x
  unfold mz_b; rw [mz_add_bv, mz_nI_bv]; omega
theorem mz_b_un (x : Int32) : x = nI ((mz_b x + 2147483648) % 4294967296) := by
  have h1 := mz_bv_lt x
  refine mz_ext ?_
  rw [mz_nI_bv]
  unfold mz_b
  omega
theorem mz_b_max (x : Int32) : mz_b x < 4294967296 := Nat.mod_lt _ (by decide)
/-! numbers of ints -/
theorem mz_add (a b : Nat) : nI a + nI b = nI ((a + b) % 4294967296) := by rw [mz_nI_mod, nI_add]
theorem mz_addx (x : Int32) (a b : Nat) : x + nI a + nI b = x + nI ((a + b) % 4294967296) := by
  rw [← mz_add]
  exact mz_ext (by rw [mz_add_bv, mz_add_bv, mz_add_bv, mz_add_bv]; omega)
theorem mz_xadd (x : Int32) (a b : Nat) : nI b + (x + nI a) = x + nI ((a + b) % 4294967296) := by
  rw [← mz_addx]
  exact mz_ext (by rw [mz_add_bv, mz_add_bv, mz_add_bv, mz_add_bv]; omega)
theorem mz_ng (a : Nat) : nI (4294967296 - a % 4294967296) = 0 - nI a := by
  refine mz_ext ?_
  rw [mz_nI_bv, mz_sub_bv, mz_nI_bv]
  show _ = (4294967296 - a % 4294967296 + 0) % 4294967296
  omega
theorem mz_sub (a b : Nat) : nI a - nI b = nI ((a + (4294967296 - b % 4294967296)) % 4294967296) := by
  refine mz_ext ?_
  rw [mz_nI_bv, mz_sub_bv, mz_nI_bv, mz_nI_bv]
  omega
theorem mz_subx (x : Int32) (a b : Nat) : x + nI a - nI b = x + nI ((a + (4294967296 - b % 4294967296)) % 4294967296) := by
  refine mz_ext ?_
  rw [mz_sub_bv, mz_add_bv, mz_add_bv, mz_nI_bv, mz_nI_bv, mz_nI_bv]
  omega
theorem mz_neg (a : Nat) : -nI a = nI ((4294967296 - a % 4294967296) % 4294967296) := by
  rw [mz_nI_mod, mz_ng]
  simp
theorem mz_negx (x : Int32) (a : Nat) : -(x + nI a) = nI ((4294967296 - a % 4294967296) % 4294967296) - x := by
  rw [mz_nI_mod, mz_ng]
  have e : -(x + nI a) = 0 - (x + nI a) := by simp
  rw [e]
  refine mz_ext ?_
  rw [mz_sub_bv, mz_sub_bv, mz_sub_bv, mz_add_bv]
  have h1 := mz_bv_lt x
  have h2 := mz_bv_lt (nI a)
  show (4294967296 - _ + 0) % 4294967296 = (4294967296 - _ + (4294967296 - _ + 0) % 4294967296) % 4294967296
  omega
theorem mz_addm (x : Int32) (a b : Nat) : nI b + (nI a - x) = nI ((a + b) % 4294967296) - x := by
  refine mz_ext ?_
  have h1 := mz_bv_lt x
  rw [mz_add_bv, mz_sub_bv, mz_sub_bv, mz_nI_bv, mz_nI_bv, mz_nI_bv]
  omega
theorem mz_maddm (x : Int32) (a b : Nat) : nI a - x + nI b = nI ((a + b) % 4294967296) - x := by
  refine mz_ext ?_
  have h1 := mz_bv_lt x
  rw [mz_add_bv, mz_sub_bv, mz_sub_bv, mz_nI_bv, mz_nI_bv, mz_nI_bv]
  omega
theorem mz_mul (a b : Nat) : nI a * nI b = nI ((a * b) % 4294967296) := by rw [mz_nI_mod, pk_mul]
theorem mz_and (a b : Nat) : nI a &&& nI b = nI (a &&& b) := by
  refine mz_ext ?_
  rw [Int32.toBitVec_and, BitVec.toNat_and, mz_nI_bv, mz_nI_bv, mz_nI_bv]
  exact (Nat.and_mod_two_pow (n := 32)).symm
theorem mz_or (a b : Nat) : nI a ||| nI b = nI (a ||| b) := by
  refine mz_ext ?_
  rw [Int32.toBitVec_or, BitVec.toNat_or, mz_nI_bv, mz_nI_bv, mz_nI_bv]
  exact (Nat.or_mod_two_pow (n := 32)).symm
theorem mz_smod : ∀ k : Fin 32, ((nI k.val).toBitVec.smod 32).toNat = k.val := by decide +kernel
theorem mz_umod : ∀ k : Fin 32, (((nI k.val).toUInt32 &&& Int32.toUInt32 31).toBitVec % 32).toNat = k.val := by decide +kernel
theorem mz_shl {a k : Nat} (hk : k < 32) (h : a * 2 ^ k < 4294967296) : nI a <<< nI k = nI (a * 2 ^ k) := pk_shlN _ k (mz_smod ⟨k, hk⟩) h
theorem mz_shr {a k : Nat} (hk : k < 32) (h : a < 2147483648) : nI a >>> nI k = nI (a / 2 ^ k) := pk_shrN h _ k (mz_smod ⟨k, hk⟩)
theorem mz_ushr {a k : Nat} (hk : k < 32) (h : a < 4294967296) : ((nI a).toUInt32 >>> ((nI k).toUInt32 &&& Int32.toUInt32 31)).toInt32 = nI (a / 2 ^ k) := pk_ushrN h _ k (mz_umod ⟨k, hk⟩)
theorem mz_i2c (a : Nat) : ((nI a).toUInt32 % 65536).toInt32 = nI (a % 65536) := by
  rw [pk_char, mz_nI_bv]
  congr 1
  omega
theorem fb_byte {x : Int32} (h1 : -128 ≤ x.toInt) (h2 : x.toInt < 128) : x.toInt8.toInt32 = x := by
  apply Int32.toInt_inj.1
  rw [Int8.toInt_toInt32, Int32.toInt_toInt8, Int.bmod_eq_of_le (by omega) (by omega)]
theorem mz_i2b {x : Int32} (h1 : 2147483648 ≤ mz_b x) (h2 : mz_b x < 2147483776) : x.toInt8.toInt32 = x := by
  have h := mz_b_int x
  exact fb_byte (by omega) (by omega)
theorem mz_i2bh {x : Int32} (h1 : 2147483776 ≤ mz_b x) (h2 : mz_b x < 2147483904) : x.toInt8.toInt32 = x + nI 4294967040 := by
  have h := mz_b_int x
  have e : (x + nI 4294967040).toInt = x.toInt - 256 := by
    have h3 := mz_b_int (x + nI 4294967040)
    rw [mz_b_add] at h3
    omega
  refine Int32.toInt_inj.mp ?_
  rw [e, Int8.toInt_toInt32, Int32.toInt_toInt8, Int.bmod_def]
  omega
