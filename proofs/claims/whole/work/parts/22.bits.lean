section
/-! Bits of the mini machine's ints. -/
def zb (x : Int) (k : Nat) : Bool := (Int32.ofInt x).toBitVec.getLsbD k
theorem zb_to (v : Int32) (k : Nat) : zb v.toInt k = v.toBitVec.getLsbD k := by unfold zb; rw [Int32.ofInt_toInt]
theorem zb_hi (x : Int) {k : Nat} (h : 32 ≤ k) : zb x k = false := BitVec.getLsbD_of_ge _ _ h
theorem zb_and (x y : Int) (k : Nat) : zb (zand x y) k = (zb x k && zb y k) := by
  unfold zand
  rw [zb_to, Int32.toBitVec_and, BitVec.getLsbD_and]
  rfl
theorem zb_or (x y : Int) (k : Nat) : zb (zor x y) k = (zb x k || zb y k) := by
  unfold zor
  rw [zb_to, Int32.toBitVec_or, BitVec.getLsbD_or]
  rfl
theorem zb_xor (x y : Int) (k : Nat) : zb (zxor x y) k = (zb x k ^^ zb y k) := by
  unfold zxor
  rw [zb_to, Int32.toBitVec_xor, BitVec.getLsbD_xor]
  rfl
theorem zb_m1 {k : Nat} (h : k < 32) : zb (-1) k = true := (show ∀ k, k < 32 → zb (-1) k = true by decide +kernel) k h
theorem zb_0 (k : Nat) : zb 0 k = false := by
  rcases Nat.lt_or_ge k 32 with h | h
  · exact (show ∀ k, k < 32 → zb 0 k = false by decide +kernel) k h
  · exact zb_hi _ h
theorem zb_not (x : Int) {k : Nat} (h : k < 32) : zb (zxor x (-1)) k = !zb x k := by
  rw [zb_xor, zb_m1 h]
  cases zb x k <;> rfl
theorem zb_shl1 {d : Int} (h0 : 0 ≤ d) (h : d < 32) (k : Nat) : zb (zshl 1 d) k = decide ((k : Int) = d) := by
  rcases Nat.lt_or_ge k 32 with hk | hk
  · have key : ∀ e, e < 32 → ∀ k, k < 32 → zb (zshl 1 (Int.ofNat e)) k = decide (k = e) := by decide +kernel
    obtain ⟨e, rfl⟩ : ∃ e : Nat, d = Int.ofNat e := ⟨d.toNat, by simp; omega⟩
    rw [key e (by simp at h; omega) k hk]
    simp only [Int.ofNat_eq_natCast, decide_eq_decide]
    omega
  · rw [zb_hi _ hk]
    symm
    rw [decide_eq_false_iff_not]
    omega
theorem zb_ext {x y : Int} (hx : zI x) (hy : zI y) (h : ∀ k, k < 32 → zb x k = zb y k) : x = y := by
  rw [← zI_to hx, ← zI_to hy]
  congr 1
  apply Int32.toBitVec.inj
  apply BitVec.eq_of_getLsbD_eq
  intro k hk
  exact h k hk
theorem zand_I (x y : Int) : zI (zand x y) := zI_of _
theorem zor_I (x y : Int) : zI (zor x y) := zI_of _
theorem zxor_I (x y : Int) : zI (zxor x y) := zI_of _
theorem zshl_I (x y : Int) : zI (zshl x y) := zI_of _
theorem zshr_I (x y : Int) : zI (zshr x y) := zI_of _
theorem zadd_I (x y : Int) : zI (zadd x y) := zI_of _
theorem zsub_I (x y : Int) : zI (zsub x y) := zI_of _
theorem zI_0 : zI 0 := by unfold zI; omega
theorem zb_z {x : Int} (hx : zI x) : x = 0 ↔ ∀ k, k < 32 → zb x k = false := by
  constructor
  · rintro rfl k -
    exact zb_0 k
  · intro h
    exact zb_ext hx zI_0 (fun k hk => by rw [h k hk, zb_0])
theorem zb_nat (x : Int) (k : Nat) : zb x k = ((x % 4294967296).toNat).testBit k := by
  unfold zb
  rw [show (Int32.ofInt x).toBitVec = BitVec.ofInt 32 x from rfl, BitVec.getLsbD, BitVec.toNat_ofInt]
  rfl
theorem zshr_n {x d : Int} (hx : zI x) (h0 : 0 ≤ d) (h : d < 32) : zshr x d = x / 2 ^ d.toNat := by
  unfold zshr
  obtain ⟨e, rfl⟩ : ∃ e : Nat, d = Int.ofNat e := ⟨d.toNat, by simp; omega⟩
  have hs : ∀ e, e < 32 → (((Int32.ofInt (Int.ofNat e)) &&& 31).toBitVec.smod 32).toNat = e := by decide +kernel
  rw [pk_shr _ _ e (hs e (by simp at h; omega)), zI_to hx, Int.shiftRight_eq_div_pow]
  simp
theorem zand1 {x : Int} (hx : zI x) : zand x 1 = x % 2 := by
  unfold zand
  have h := pk_and (Int32.ofInt x) (m := 1) 1 (by decide)
  rw [show Int32.ofInt 1 = 1 by decide, h, nI_toInt (by omega), show (Int32.ofInt x).toBitVec = BitVec.ofInt 32 x from rfl, BitVec.toNat_ofInt]
  omega
theorem zb_div {x : Int} {k : Nat} (hk : k < 32) : zb x k = decide (x / 2 ^ k % 2 = 1) := by
  rw [zb_nat, Nat.testBit_eq_decide_div_mod_eq]
  have hp : (2 : Int) ^ k = ((2 ^ k : Nat) : Int) := by simp
  have e1 : (4294967296 : Int) = 2 ^ k * (2 * 2 ^ (31 - k)) := by
    have h2 : (2 : Int) ^ k * (2 * 2 ^ (31 - k)) = 2 ^ (k + 1 + (31 - k)) := by rw [Int.pow_add, Int.pow_succ]; ac_rfl
    rw [h2, show k + 1 + (31 - k) = 32 by omega]
    decide
  have h3 : x / 2 ^ k % 2 = (x % 4294967296) / 2 ^ k % 2 := by
    have h4 : x = x % 4294967296 + 2 ^ k * ((2 * 2 ^ (31 - k)) * (x / 4294967296)) := by
      have := Int.emod_add_mul_ediv x 4294967296
      rw [← Int.mul_assoc, ← e1]
      omega
    have hne : (2 : Int) ^ k ≠ 0 := by rw [hp]; have := Nat.two_pow_pos k; omega
    conv => lhs; rw [h4]
    rw [Int.add_mul_ediv_left _ _ hne, Int.mul_assoc]
    omega
  rw [h3]
  have h5 : (0 : Int) ≤ x % 4294967296 := Int.emod_nonneg _ (by decide)
  generalize x % 4294967296 = y at h5 ⊢
  obtain ⟨n, rfl⟩ := Int.eq_ofNat_of_zero_le h5
  rw [hp]
  norm_cast
def zB (x : Int) (k : Nat) : Prop := zb x k = true
theorem zB_and (x y : Int) (k : Nat) : zB (zand x y) k ↔ zB x k ∧ zB y k := by unfold zB; rw [zb_and, Bool.and_eq_true]
theorem zB_or (x y : Int) (k : Nat) : zB (zor x y) k ↔ zB x k ∨ zB y k := by unfold zB; rw [zb_or, Bool.or_eq_true]
theorem zB_not (x : Int) {k : Nat} (h : k < 32) : zB (zxor x (-1)) k ↔ ¬ zB x k := by unfold zB; rw [zb_not x h]; cases zb x k <;> simp
theorem zB_shl {d : Int} (h0 : 0 ≤ d) (h : d < 32) (k : Nat) : zB (zshl 1 d) k ↔ (k : Int) = d := by unfold zB; rw [zb_shl1 h0 h, decide_eq_true_iff]
theorem zB_0 (k : Nat) : ¬ zB 0 k := by unfold zB; rw [zb_0]; simp
theorem zB_lt {x : Int} {k : Nat} (h : zB x k) : k < 32 := by
  rcases Nat.lt_or_ge k 32 with q | q
  · exact q
  · unfold zB at h; rw [zb_hi x q] at h; cases h
theorem zB_ext {x y : Int} (hx : zI x) (hy : zI y) (h : ∀ k, k < 32 → (zB x k ↔ zB y k)) : x = y := zb_ext hx hy (fun k hk => by
  have := h k hk
  unfold zB at this
  cases hx : zb x k <;> cases hy : zb y k <;> simp_all)
theorem zB_z {x : Int} (hx : zI x) : x = 0 ↔ ∀ k, k < 32 → ¬ zB x k := by
  rw [zb_z hx]
  unfold zB
  constructor <;> intro h k hk <;> have := h k hk <;> simpa using this
theorem zB_div {x : Int} {k : Nat} (hk : k < 32) : zB x k ↔ x / 2 ^ k % 2 = 1 := by unfold zB; rw [zb_div hk, decide_eq_true_iff]
/-- the test of a bit -/
theorem zB_test {x d : Int} (hx : zI x) (h0 : 0 ≤ d) (h : d < 32) : zand (zshr x d) 1 = 0 ↔ ¬ zB x d.toNat := by
  rw [zand1 (zshr_I x d), zshr_n hx h0 h, zB_div (by omega)]
  omega
theorem zB_test1 {x d : Int} (hx : zI x) (h0 : 0 ≤ d) (h : d < 32) : zand (zshr x d) 1 = 1 ↔ zB x d.toNat := by
  rw [zand1 (zshr_I x d), zshr_n hx h0 h, zB_div (by omega)]
theorem zB_test01 {x d : Int} (hx : zI x) : zand (zshr x d) 1 = 0 ∨ zand (zshr x d) 1 = 1 := by
  rw [zand1 (zshr_I x d)]
  omega
theorem zB_ne {x d : Int} (hx : zI x) (h0 : 0 ≤ d) (h : d < 32) : zand (zshr x d) 1 ≠ 0 ↔ zB x d.toNat := by
  rw [Ne, zB_test hx h0 h, Classical.not_not]
/-- low bits alone: the number is small -/
theorem zB_small {x : Int} (hx : zI x) {n : Nat} (hn : n ≤ 31) (h : ∀ k, n ≤ k → k < 32 → ¬ zB x k) : 0 ≤ x ∧ x < 2 ^ n := by
  have h31 := h 31 hn (by decide)
  rw [zB_div (by decide)] at h31
  unfold zI at hx
  have h0 : 0 ≤ x := by omega
  refine ⟨h0, ?_⟩
  obtain ⟨y, rfl⟩ := Int.eq_ofNat_of_zero_le h0
  have : y < 2 ^ n := by
    apply Nat.lt_pow_two_of_testBit
    intro i hi
    rcases Nat.lt_or_ge i 32 with q | q
    · have h1 := h i hi q
      unfold zB at h1
      rw [zb_nat, Int.emod_eq_of_lt h0 (by omega)] at h1
      simpa using h1
    · apply Nat.testBit_lt_two_pow
      have : (2 : Nat) ^ 32 ≤ 2 ^ i := Nat.pow_le_pow_right (by decide) q
      omega
  exact_mod_cast this
theorem zB_of_lt {x : Int} (h0 : 0 ≤ x) {n : Nat} (hn : n ≤ 31) (h : x < 2 ^ n) {k : Nat} (hk : n ≤ k) : ¬ zB x k := by
  obtain ⟨y, rfl⟩ := Int.eq_ofNat_of_zero_le h0
  have hy : y < 2 ^ n := by exact_mod_cast h
  have h32 : (2 : Nat) ^ n ≤ 2 ^ 31 := Nat.pow_le_pow_right (by decide) hn
  unfold zB
  rw [zb_nat, Int.emod_eq_of_lt h0 (by omega)]
  have : y < 2 ^ k := Nat.lt_of_lt_of_le hy (Nat.pow_le_pow_right (by decide) hk)
  simp [Nat.testBit_lt_two_pow this]
theorem zdiv_n {x y : Int} (hx : zI x) (hy : zI y) (h0 : 0 ≤ x) (h1 : 0 < y) : zdiv x y = x / y := by
  unfold zdiv
  rw [Int32.toInt_div, zI_to hx, zI_to hy, Int.tdiv_eq_ediv_of_nonneg h0]
  rw [show (2 ^ 32 : Nat) = 4294967296 by decide, w32_bmod, w32_id]
  unfold zI at hx ⊢
  have h2 := Int.ediv_nonneg h0 (Int.le_of_lt h1)
  have h3 : x / y ≤ x := Int.ediv_le_self y h0
  omega
theorem zrem_n {x y : Int} (hx : zI x) (hy : zI y) (h0 : 0 ≤ x) (h1 : 0 < y) : zrem x y = x % y := by
  have hd := zdiv_n hx hy h0 h1
  unfold zdiv at hd
  unfold zrem
  rw [Int32.toInt_sub, Int32.toInt_mul, zI_to hx, zI_to hy, hd]
  rw [show (2 ^ 32 : Nat) = 4294967296 by decide, w32_bmod, w32_bmod]
  have h2 : x / y * y = x - x % y := by have := Int.emod_add_mul_ediv x y; rw [Int.mul_comm]; omega
  have h3 := Int.emod_nonneg x (Int.ne_of_gt h1)
  have h4 : x % y ≤ x := by
    have := Int.ediv_nonneg h0 (Int.le_of_lt h1)
    have := Int.mul_nonneg this (Int.le_of_lt h1)
    omega
  unfold zI at hx
  rw [h2, show w32 (x - x % y) = x - x % y from w32_id (by unfold zI; omega), w32_id (by unfold zI; omega)]
  omega
end
