section
/-! The numbers of the mini machine: an int is an Int in range, an operation goes by way of Int32. -/
def zI (z : Int) : Prop := -2147483648 ≤ z ∧ z < 2147483648
def zJ (z : Int) : Prop := -9223372036854775808 ≤ z ∧ z < 9223372036854775808
def w32 (z : Int) : Int := (z + 2147483648) % 4294967296 - 2147483648
def w64 (z : Int) : Int := (z + 9223372036854775808) % 18446744073709551616 - 9223372036854775808
theorem zI_to {z : Int} (h : zI z) : (Int32.ofInt z).toInt = z := Int32.toInt_ofInt_of_le h.1 h.2
theorem zJ_to {z : Int} (h : zJ z) : (Int64.ofInt z).toInt = z := Int64.toInt_ofInt_of_le h.1 h.2
theorem zI_of (x : Int32) : zI x.toInt := ⟨x.le_toInt, x.toInt_lt⟩
theorem zJ_of (x : Int64) : zJ x.toInt := ⟨x.le_toInt, x.toInt_lt⟩
theorem w32_bmod (z : Int) : z.bmod 4294967296 = w32 z := by
  unfold w32
  rw [Int.bmod_def]
  split <;> omega
theorem w64_bmod (z : Int) : z.bmod 18446744073709551616 = w64 z := by
  unfold w64
  rw [Int.bmod_def]
  split <;> omega
theorem w32_I (z : Int) : zI (w32 z) := by unfold w32 zI; omega
theorem w64_J (z : Int) : zJ (w64 z) := by unfold w64 zJ; omega
theorem w32_id {z : Int} (h : zI z) : w32 z = z := by unfold zI at h; unfold w32; omega
theorem w64_id {z : Int} (h : zJ z) : w64 z = z := by unfold zJ at h; unfold w64; omega
theorem zO (z : Int) : (Int32.ofInt z).toInt = w32 z := by rw [Int32.toInt_ofInt]; exact w32_bmod z
theorem zOl (z : Int) : (Int64.ofInt z).toInt = w64 z := by rw [Int64.toInt_ofInt]; exact w64_bmod z
def zadd (x y : Int) : Int := (Int32.ofInt x + Int32.ofInt y).toInt
def zsub (x y : Int) : Int := (Int32.ofInt x - Int32.ofInt y).toInt
def zmul (x y : Int) : Int := (Int32.ofInt x * Int32.ofInt y).toInt
def zneg (x : Int) : Int := (-Int32.ofInt x).toInt
def zdiv (x y : Int) : Int := (Int32.ofInt x / Int32.ofInt y).toInt
def zrem (x y : Int) : Int := (Int32.ofInt x - Int32.ofInt x / Int32.ofInt y * Int32.ofInt y).toInt
def zand (x y : Int) : Int := (Int32.ofInt x &&& Int32.ofInt y).toInt
def zor (x y : Int) : Int := (Int32.ofInt x ||| Int32.ofInt y).toInt
def zxor (x y : Int) : Int := (Int32.ofInt x ^^^ Int32.ofInt y).toInt
def zshl (x y : Int) : Int := (Int32.ofInt x <<< (Int32.ofInt y &&& 31)).toInt
def zshr (x y : Int) : Int := (Int32.ofInt x >>> (Int32.ofInt y &&& 31)).toInt
def zushr (x y : Int) : Int := (((Int32.ofInt x).toUInt32 >>> ((Int32.ofInt y).toUInt32 &&& Int32.toUInt32 31)).toInt32).toInt
def zi2b (x : Int) : Int := (Int32.ofInt x).toInt8.toInt32.toInt
def zi2s (x : Int) : Int := (Int32.ofInt x).toInt16.toInt32.toInt
def zi2c (x : Int) : Int := ((Int32.ofInt x).toUInt32 % 65536).toInt32.toInt
def zl2i (x : Int) : Int := (Int64.ofInt x).toInt32.toInt
def zladd (x y : Int) : Int := (Int64.ofInt x + Int64.ofInt y).toInt
def zlmul (x y : Int) : Int := (Int64.ofInt x * Int64.ofInt y).toInt
def zland (x y : Int) : Int := (Int64.ofInt x &&& Int64.ofInt y).toInt
def zlor (x y : Int) : Int := (Int64.ofInt x ||| Int64.ofInt y).toInt
def zlshl (x y : Int) : Int := (Int64.ofInt x <<< ((Int32.ofInt y).toInt64 &&& 63)).toInt
def zlshr (x y : Int) : Int := (Int64.ofInt x >>> ((Int32.ofInt y).toInt64 &&& 63)).toInt
def zlushr (x y : Int) : Int := (((Int64.ofInt x).toUInt64 >>> ((Int32.ofInt y).toInt64.toUInt64 &&& Int64.toUInt64 63)).toInt64).toInt
def zlcmp (x y : Int) : Int := (lg_cmp (Int64.ofInt x) (Int64.ofInt y)).toInt
theorem zadd_w (x y : Int) : zadd x y = w32 (x + y) := by
  unfold zadd
  rw [← Int32.ofInt_add, zO]
theorem zsub_w (x y : Int) : zsub x y = w32 (x - y) := by
  unfold zsub
  rw [← Int32.ofInt_sub, zO]
theorem zmul_w (x y : Int) : zmul x y = w32 (x * y) := by
  unfold zmul
  rw [← Int32.ofInt_mul, zO]
theorem zneg_w (x : Int) : zneg x = w32 (-x) := by
  unfold zneg
  rw [← Int32.ofInt_neg, zO]
theorem zladd_w (x y : Int) : zladd x y = w64 (x + y) := by
  unfold zladd
  rw [← Int64.ofInt_add, zOl]
theorem zlmul_w (x y : Int) : zlmul x y = w64 (x * y) := by
  unfold zlmul
  rw [← Int64.ofInt_mul, zOl]
theorem zadd_n {x y : Int} (h : zI (x + y)) : zadd x y = x + y := by rw [zadd_w, w32_id h]
theorem zsub_n {x y : Int} (h : zI (x - y)) : zsub x y = x - y := by rw [zsub_w, w32_id h]
theorem zmul_n {x y : Int} (h : zI (x * y)) : zmul x y = x * y := by rw [zmul_w, w32_id h]
theorem zlt_i {x y : Int} (hx : zI x) (hy : zI y) : Int32.ofInt x < Int32.ofInt y ↔ x < y := by rw [Int32.lt_iff_toInt_lt, zI_to hx, zI_to hy]
theorem zle_i {x y : Int} (hx : zI x) (hy : zI y) : Int32.ofInt x ≤ Int32.ofInt y ↔ x ≤ y := by rw [Int32.le_iff_toInt_le, zI_to hx, zI_to hy]
theorem zeq_i {x y : Int} (hx : zI x) (hy : zI y) : Int32.ofInt x = Int32.ofInt y ↔ x = y := by rw [← Int32.toInt_inj, zI_to hx, zI_to hy]
theorem z0_i : (0 : Int32) = Int32.ofInt 0 := by decide +kernel
theorem zin_i {x : Int} (hx : zI x) {n : Nat} (h0 : 0 ≤ x) (hn : x < n) : vp_in (Int32.ofInt x) n := by
  rw [vp_in_iff, zI_to hx]
  exact ⟨h0, hn⟩
theorem zcl_i {x : Int} (hx : zI x) : (Int32.ofInt x).toNatClampNeg = x.toNat := by
  show (Int32.ofInt x).toInt.toNat = x.toNat
  rw [zI_to hx]
theorem zi2l_i {x : Int} (hx : zI x) : (Int32.ofInt x).toInt64 = Int64.ofInt x := by
  rw [← Int64.toInt_inj, Int32.toInt_toInt64, zI_to hx, zJ_to]
  unfold zI at hx
  unfold zJ
  omega
end
