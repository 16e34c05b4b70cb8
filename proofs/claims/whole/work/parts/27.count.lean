section
variable {d h : Nat} {mem : zMem} {g : zPg} {rm : Int} {Q : Int → zMem → Prop}
def zfl (mem : zMem) (b n : Nat) (v : Int) : zMem := fun k j => if k = b ∧ j < n then v else mem k j
theorem zfl_k {m : zMem} {b n : Nat} {v : Int} {a : Nat} (h : a ≠ b) : zfl m b n v a = m a := by
  funext i
  unfold zfl
  rw [if_neg (fun q => h q.1)]
theorem zfl_e {m : zMem} {b n : Nat} {v : Int} {i : Nat} (h : i < n) : zfl m b n v b i = v := by
  unfold zfl
  rw [if_pos ⟨rfl, h⟩]
theorem l_Jd_fill {b : Nat} (ha : zkd b = 100) {v : Int} (hQ : Q 0 (zfl mem b (zln b) v)) : ∀ (n i : Nat), i + n = zln b → zG (d + 1) M_Jd_fill 5 [(2, Int.ofNat b), (0, v), (0, (i : Int)), (0, (zln b : Int))] [] (zfl mem b i v) Q
  | 0, i, hi => by
    refine v_Jd_fill_5 ha ⟨fun _ => ?_, fun c => by omega⟩
    rw [show i = zln b by omega]
    exact hQ
  | n + 1, i, hi => by
    have hlt := zln_lt b (zkd_lt (by omega))
    refine v_Jd_fill_5 ha ⟨fun c => by omega, fun c => ⟨by omega, fun m1 e1 x1 f1 => ?_⟩⟩
    rw [zadd_n (by unfold zI; omega)] at f1
    have e2 : m1 = zfl mem b (i + 1) v := by
      rw [e1]
      funext k j
      unfold zup zfl
      rw [Int.toNat_natCast]
      by_cases hk : k = b
      · by_cases hj : j = i
        · rw [if_pos ⟨hk, hj⟩, if_pos ⟨hk, by omega⟩]
        · rw [if_neg (fun q => hj q.2)]
          by_cases hj2 : j < i
          · rw [if_pos ⟨hk, hj2⟩, if_pos ⟨hk, by omega⟩]
          · rw [if_neg (fun q => hj2 q.2), if_neg (fun q => hj2 (by omega))]
      · rw [if_neg (fun q => hk q.1), if_neg (fun q => hk q.1), if_neg (fun q => hk q.1)]
    rw [e2, f1]
    exact l_Jd_fill ha hQ n (i + 1) (by omega)
theorem c_Jd_fill {b : Nat} (ha : zkd b = 100) {v : Int} (hQ : Q 0 (zfl mem b (zln b) v)) : zC (d + 1) K_Jd_fill [(2, Int.ofNat b), (0, v)] mem Q := by
  refine v_Jd_fill ha (fun x1 e1 => ?_)
  rw [e1]
  have := l_Jd_fill (d := d) (mem := mem) ha hQ (zln b) 0 (by omega)
  have e0 : zfl mem b 0 v = mem := by
    funext k j
    unfold zfl
    rw [if_neg (fun q => absurd q.2 (Nat.not_lt_zero _))]
  rw [e0] at this
  exact this
/-- how many of the first bits are set -/
def zpc : Nat → Int → Int
  | 0, _ => 0
  | n + 1, x => zpc n x + (if zb x n = true then 1 else 0)
def zbc (a : Int) : Int :=
  let x1 := zsub a (zand (zushr a 1) 1431655765)
  let x2 := zadd (zand x1 858993459) (zand (zushr x1 2) 858993459)
  let x3 := zand (zadd x2 (zushr x2 4)) 252645135
  let x4 := zadd x3 (zushr x3 8)
  let x5 := zadd x4 (zushr x4 16)
  zand x5 63
theorem zbn {n : Nat} (h : n < 2147483648) (k : Nat) : zb (n : Int) k = n.testBit k := by
  rw [zb_nat, Int.emod_eq_of_lt (by omega) (by omega)]
  rfl
theorem zand_nat {n m : Nat} (hn : n < 2147483648) (hm : m < 2147483648) : zand (n : Int) (m : Int) = ((n &&& m : Nat) : Int) := by
  have hl : n &&& m ≤ n := Nat.and_le_left
  apply zb_ext (zand_I _ _) (by unfold zI; omega)
  intro k hk
  rw [zb_and, zbn hn, zbn hm, zbn (by omega), Nat.testBit_and]
theorem zor_nat {n m : Nat} (hn : n < 2147483648) (hm : m < 2147483648) : zor (n : Int) (m : Int) = ((n ||| m : Nat) : Int) := by
  have hl : n ||| m < 2 ^ 31 := Nat.or_lt_two_pow hn hm
  apply zb_ext (zor_I _ _) (by unfold zI; omega)
  intro k hk
  rw [zb_or, zbn hn, zbn hm, zbn (by omega), Nat.testBit_or]
theorem zushr_nat {n e : Nat} (hn : n < 2147483648) (he : e < 32) : zushr (n : Int) (e : Int) = ((n >>> e : Nat) : Int) := by
  unfold zushr
  have hs : ∀ e, e < 32 → (((Int32.ofInt (Int.ofNat e)).toUInt32 &&& Int32.toUInt32 31).toBitVec % 32).toNat = e := by decide +kernel
  have h1 := pk_ushrN (n := n) (by omega) (Int32.ofInt (Int.ofNat e)) e (hs e he)
  have h2 : n / 2 ^ e ≤ n := Nat.div_le_self _ _
  rw [show Int32.ofInt (n : Int) = nI n from Int32.ofInt_eq_ofNat]
  rw [show Int32.ofInt (e : Int) = Int32.ofInt (Int.ofNat e) from rfl, h1, nI_toInt (by omega), Nat.shiftRight_eq_div_pow]
theorem shr_le (a e : Nat) : a >>> e ≤ a := by rw [Nat.shiftRight_eq_div_pow]; exact Nat.div_le_self _ _
theorem zushr_lit {n e : Nat} {L : Int} (hL : L = (e : Int)) (hn : n < 2147483648) (he : e < 32) : zushr (n : Int) L = ((n >>> e : Nat) : Int) := by rw [hL]; exact zushr_nat hn he
theorem zand_lit {n m : Nat} {L : Int} (hL : L = (m : Int)) (hn : n < 2147483648) (hm : m < 2147483648) : zand (n : Int) L = ((n &&& m : Nat) : Int) := by rw [hL]; exact zand_nat hn hm
theorem zbc_nat {a : Nat} (h : a < 16384) : zbc (a : Int) = (nbc a : Int) := by
  unfold zbc nbc
  dsimp only
  have l0 := shr_le a 1
  have l1 : (a >>> 1) &&& 1431655765 ≤ a := Nat.le_trans Nat.and_le_left l0
  rw [zushr_lit (e := 1) (L := 1) rfl (by omega) (by decide), zand_lit (m := 1431655765) (L := 1431655765) rfl (by omega) (by decide)]
  rw [zsub_n (by unfold zI; omega), ← Int.ofNat_sub l1]
  have hx1 : a - ((a >>> 1) &&& 1431655765) ≤ a := Nat.sub_le _ _
  generalize a - ((a >>> 1) &&& 1431655765) = x1 at hx1 ⊢
  have b1 : x1 < 16384 := by omega
  have l2 : x1 &&& 858993459 ≤ x1 := Nat.and_le_left
  have l3' := shr_le x1 2
  have l3 : (x1 >>> 2) &&& 858993459 ≤ x1 := Nat.le_trans Nat.and_le_left l3'
  rw [zushr_lit (n := x1) (e := 2) (L := 2) rfl (by omega) (by decide), zand_lit (n := x1) (m := 858993459) (L := 858993459) rfl (by omega) (by decide), zand_lit (n := x1 >>> 2) (m := 858993459) (L := 858993459) rfl (by omega) (by decide)]
  rw [zadd_n (x := ((x1 &&& 858993459 : Nat) : Int)) (y := ((x1 >>> 2 &&& 858993459 : Nat) : Int)) (by unfold zI; omega), ← Int.natCast_add]
  have hx2 : (x1 &&& 858993459) + ((x1 >>> 2) &&& 858993459) ≤ x1 + x1 := Nat.add_le_add l2 l3
  generalize (x1 &&& 858993459) + ((x1 >>> 2) &&& 858993459) = x2 at hx2 ⊢
  have l4 := shr_le x2 4
  rw [zushr_lit (n := x2) (e := 4) (L := 4) rfl (by omega) (by decide), zadd_n (x := (x2 : Int)) (y := ((x2 >>> 4 : Nat) : Int)) (by unfold zI; omega), ← Int.natCast_add, zand_lit (m := 252645135) (L := 252645135) rfl (by omega) (by decide)]
  have l5 : (x2 + (x2 >>> 4)) &&& 252645135 ≤ x2 + (x2 >>> 4) := Nat.and_le_left
  generalize (x2 + (x2 >>> 4)) &&& 252645135 = x3 at l5 ⊢
  have l6 := shr_le x3 8
  rw [zushr_lit (n := x3) (e := 8) (L := 8) rfl (by omega) (by decide), zadd_n (x := (x3 : Int)) (y := ((x3 >>> 8 : Nat) : Int)) (by unfold zI; omega), ← Int.natCast_add]
  have hx4 : x3 + (x3 >>> 8) ≤ x3 + x3 := Nat.add_le_add_left l6 _
  generalize x3 + (x3 >>> 8) = x4 at hx4 ⊢
  have l7 := shr_le x4 16
  rw [zushr_lit (n := x4) (e := 16) (L := 16) rfl (by omega) (by decide), zadd_n (x := (x4 : Int)) (y := ((x4 >>> 16 : Nat) : Int)) (by unfold zI; omega), ← Int.natCast_add, zand_lit (m := 63) (L := 63) rfl (by omega) (by decide)]
theorem zpc_nat {a : Nat} (h : a < 2147483648) : ∀ n, zpc n (a : Int) = (npc n a : Int)
  | 0 => rfl
  | n + 1 => by
    unfold zpc npc
    rw [zpc_nat h n, zbn h]
    split <;> simp
theorem c_Jd_bitCount {a : Int} (h : 0 ≤ a ∧ a < 16384) (hQ : Q (zpc 14 a) mem) : zC (d + 1) K_Jd_bitCount [(0, a)] mem Q := by
  refine v_Jd_bitCount (fun x1 e1 x2 e2 x3 e3 x4 e4 x5 e5 => ?_)
  have : zand x5 63 = zpc 14 a := by
    obtain ⟨n, rfl⟩ := Int.eq_ofNat_of_zero_le h.1
    rw [zpc_nat (by omega), ← nbc_1 n (by omega), ← zbc_nat (by omega)]
    unfold zbc
    dsimp only
    subst e1; subst e2; subst e3; subst e4; subst e5
    rfl
  rw [this]
  exact hQ
theorem zpc_ge (x : Int) : ∀ n, 0 ≤ zpc n x ∧ zpc n x ≤ n
  | 0 => ⟨Int.le_refl _, Int.le_refl _⟩
  | n + 1 => by
    have := zpc_ge x n
    unfold zpc
    split <;> omega
theorem zpc_congr {x y : Int} : ∀ n, (∀ k, k < n → (zB x k ↔ zB y k)) → zpc n x = zpc n y
  | 0, _ => rfl
  | n + 1, h => by
    unfold zpc
    rw [zpc_congr n (fun k hk => h k (by omega))]
    have := h n (by omega)
    unfold zB at this
    cases hx : zb x n <;> cases hy : zb y n <;> simp_all
end
